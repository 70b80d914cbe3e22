abbrev w_X10_joinTurnsOf (Y : Nat → ClassId) (h_t : Nat) (B_t : Nat → Nat) (B_t_classes : Nat → Nat) (B_t_current : Nat → Nat) (t_toldCount : Int32) (t_classes_n : Int32) (t_classes_leader : Nat → Int32) (t_current_n : Int32) (t_current_cells : Nat → Int32) : va_W := [(h_t, .inr (9, [.ref (B_t 0), .ref (B_t 1), .ref (B_t 2), .ref (B_t 3), .ref (B_t 4), .ref (B_t 5), .ref (B_t 6), .ref (B_t 7), .ref (B_t 8), .ref (B_t 9), .ref (B_t 10), .ref (B_t 11), .ref (B_t 12), .ref (B_t 13), .int t_toldCount])), ((B_t 6), .inr (1, [.ref (B_t_classes 0), .ref (B_t_classes 1), .int t_classes_n])), ((B_t_classes 0), .inl (Y 0, 8, .inl t_classes_leader)), ((B_t 0), .inr (6, [.ref (B_t_current 0), .int t_current_n])), ((B_t_current 0), .inl (Y 0, 64, .inl t_current_cells))]

set_option maxHeartbeats 4000000 in
set_option maxRecDepth 100000 in
theorem wk_X10_joinTurnsOf {p : Program} {l : Launch} {e : Env} {R : Room} {s : State} {m : MethodId} {args : Array Value} {below : List Frame} {meth : Method} {c : Code} {Q : State → Prop} {G : va_G} {Y : Nat → ClassId} {tF : Nat} {A : Nat → Prop} (h_t : Nat) (B_t : Nat → Nat) (B_t_classes : Nat → Nat) (B_t_current : Nat → Nat) (t_toldCount : Int32) (t_classes_n : Int32) (t_classes_leader : Nat → Int32) (t_current_n : Int32) (t_current_cells : Nat → Int32) (x1 : Int32) (x2 : Int32) {K : Int32 → (Nat → Int32) → Prop} (hx : p.tables.exec = Jvm.exec) (hb : c.code = cX10_joinTurnsOf) (hml : c.maxLocals = 7) (hown : s.vm.findClass RX10 = some m.cls) (hts : ∀ w ∈ wsX10_joinTurnsOf, w.before args s = true) (hK : va_K G vwCl (tyL Y) s) (hE : Ev A tF s) (hA : ∀ q, s.heap.size ≤ q → A q) (hRf : 2 ≤ R.frames) (hRl : 49 ≤ R.locals) (hret : ∀ (r : Int32) (t_classes_leader : Nat → Int32) (H : Heap) (locs : List Loc) (ls : Array Slot) (pc : Nat), va_P G vwCl (w_X10_joinTurnsOf Y h_t B_t B_t_classes B_t_current t_toldCount t_classes_n t_classes_leader t_current_n t_current_cells) H → va_D A (w_X10_joinTurnsOf Y h_t B_t B_t_classes B_t_current t_toldCount t_classes_n t_classes_leader t_current_n t_current_cells) → va_S A s.heap H locs → zb r → K r t_classes_leader → decode cX10_joinTurnsOf pc = .ok (.ireturn, 1) → W p l e R s m args below meth c H locs 0 0 Q (F0 m pc ls [.int r])) (hP : va_P G vwCl (w_X10_joinTurnsOf Y h_t B_t B_t_classes B_t_current t_toldCount t_classes_n t_classes_leader t_current_n t_current_cells) s.heap) (hD : va_D A (w_X10_joinTurnsOf Y h_t B_t B_t_classes B_t_current t_toldCount t_classes_n t_classes_leader t_current_n t_current_cells)) (h : pX10_joinTurnsOf t_classes_n t_classes_leader t_current_n t_current_cells x1 x2 K) : W p l e R s m args below meth c s.heap [] 0 0 Q (entryFrame m ([.ref h_t, .int x1, .int x2] : List Value).toArray 7) := by
  have inX10 : ∀ w ∈ u_ws RX10 TX10 15, w ∈ wsX10_joinTurnsOf := by decide +kernel
  have inX7 : ∀ w ∈ u_ws RX7 TX7 2, w ∈ wsX10_joinTurnsOf := by decide +kernel
  have hf14 := hts (.fieldLink RX10 14 "RackBench" "current" "LRackBench$Table;") (by decide +kernel)
  have hf45 := hts (.fieldLink RX10 45 "RackBench" "classes" "LRackBench$Classes;") (by decide +kernel)
  have hl := lv_entry ([.ref h_t, .int x1, .int x2]) (n := 7) (Nat.le_of_ble_eq_true rfl)
  rw [lg_entry_eq]
  generalize (lg_sl ([.ref h_t, .int x1, .int x2]) ++ List.replicate (7 - (lg_sl ([.ref h_t, .int x1, .int x2])).length) Slot.unset).toArray = ls at hl ⊢
  have hl : lv_has ls 7 [(0, .ref h_t), (1, .int x1), (2, .int x2)] := hl
  generalize hH0 : s.heap = H at hP ⊢
  have hS : va_S A s.heap H [] := by rw [← hH0]; exact va_S.rf
  clear hH0
  generalize ([] : List Loc) = locs at hS ⊢
  refine lv_iconst (v := 0) hx hb dX10_joinTurnsOf_0 (by decide) ?_
  refine lv_istore_n (lv' := [(3, .int (0 : Int32)), (0, .ref h_t), (1, .int x1), (2, .int x2)]) hx hb dX10_joinTurnsOf_1 rfl hl (by decide) rfl (fun ls hl => ?_)
  refine lv_iconst (v := 0) hx hb dX10_joinTurnsOf_2 (by decide) ?_
  refine lv_istore (lv' := [(4, .int (0 : Int32)), (3, .int (0 : Int32)), (0, .ref h_t), (1, .int x1), (2, .int x2)]) hx hb dX10_joinTurnsOf_3 hl (by decide) rfl (fun ls hl => ?_)
  obtain ⟨I5, m5, hI5, hB5⟩ := h
  have L5 : ∀ (x1 : Int32) (x2 : Int32) (I5 : Int32 → Int32 → (Nat → Int32) → Prop) (m5 : Int32 → Int32 → (Nat → Int32) → Nat), (∀ (x3 : Int32) (x4 : Int32) (t_classes_leader : Nat → Int32), I5 x3 x4 t_classes_leader → pX10_joinTurnsOf_5 t_classes_n t_current_n t_current_cells K x1 x2 x3 x4 t_classes_leader (fun x3' x4' t_classes_leader' => I5 x3' x4' t_classes_leader' ∧ m5 x3' x4' t_classes_leader' < m5 x3 x4 t_classes_leader)) → ∀ (n : Nat) (x3 : Int32) (x4 : Int32) (t_classes_leader : Nat → Int32) (H : Heap) (locs : List Loc) (ls : Array Slot), I5 x3 x4 t_classes_leader → m5 x3 x4 t_classes_leader < n → va_P G vwCl (w_X10_joinTurnsOf Y h_t B_t B_t_classes B_t_current t_toldCount t_classes_n t_classes_leader t_current_n t_current_cells) H → va_D A (w_X10_joinTurnsOf Y h_t B_t B_t_classes B_t_current t_toldCount t_classes_n t_classes_leader t_current_n t_current_cells) → va_S A s.heap H locs → lv_has ls 7 [(0, .ref h_t), (1, .int x1), (2, .int x2), (3, .int x3), (4, .int x4)] → W p l e R s m args below meth c H locs 0 0 Q (F0 m 5 ls []) := by
    intro x1 x2 I5 m5 hB5 n
    induction n with
    | zero => intro x3 x4 t_classes_leader H locs ls _ hm; exact absurd hm (Nat.not_lt_zero _)
    | succ n ih =>
      intro x3 x4 t_classes_leader H locs ls hI hm hP hD hS hl
      obtain ⟨R5, h, rec5⟩ : ∃ R5 : Int32 → Int32 → (Nat → Int32) → Prop, pX10_joinTurnsOf_5 t_classes_n t_current_n t_current_cells K x1 x2 x3 x4 t_classes_leader R5 ∧ ∀ (x3 : Int32) (x4 : Int32) (t_classes_leader : Nat → Int32) (H : Heap) (locs : List Loc) (ls : Array Slot), R5 x3 x4 t_classes_leader → va_P G vwCl (w_X10_joinTurnsOf Y h_t B_t B_t_classes B_t_current t_toldCount t_classes_n t_classes_leader t_current_n t_current_cells) H → va_D A (w_X10_joinTurnsOf Y h_t B_t B_t_classes B_t_current t_toldCount t_classes_n t_classes_leader t_current_n t_current_cells) → va_S A s.heap H locs → lv_has ls 7 [(0, .ref h_t), (1, .int x1), (2, .int x2), (3, .int x3), (4, .int x4)] → W p l e R s m args below meth c H locs 0 0 Q (F0 m 5 ls []) := ⟨_, hB5 x3 x4 t_classes_leader hI, fun x3 x4 t_classes_leader H locs ls hh hP hD hS hl => ih x3 x4 t_classes_leader H locs ls hh.1 (Nat.lt_of_lt_of_le hh.2 (Nat.le_of_lt_succ hm)) hP hD hS hl⟩
      have J89 : ∀ (x4 : Int32) (t_classes_leader : Nat → Int32) (H : Heap) (locs : List Loc) (ls : Array Slot), pX10_joinTurnsOf_89 t_classes_n t_current_n t_current_cells R5 K x1 x2 x4 t_classes_leader → va_P G vwCl (w_X10_joinTurnsOf Y h_t B_t B_t_classes B_t_current t_toldCount t_classes_n t_classes_leader t_current_n t_current_cells) H → va_D A (w_X10_joinTurnsOf Y h_t B_t B_t_classes B_t_current t_toldCount t_classes_n t_classes_leader t_current_n t_current_cells) → va_S A s.heap H locs → lv_has ls 7 [(0, .ref h_t), (1, .int x1), (2, .int x2), (4, .int x4)] → W p l e R s m args below meth c H locs 0 0 Q (F0 m 89 ls []) := by
        intro x4 t_classes_leader H locs ls h hP hD hS hl
        refine lv_iconst (v := 1) hx hb dX10_joinTurnsOf_89 (by decide) ?_
        refine lv_goto (tgt := 94) hx hb dX10_joinTurnsOf_90 (by decide) ?_
        refine lv_istore_n (lv' := [(3, .int (1 : Int32)), (0, .ref h_t), (1, .int x1), (2, .int x2), (4, .int x4)]) hx hb dX10_joinTurnsOf_94 rfl hl (by decide) rfl (fun ls hl => ?_)
        refine lv_iinc (v := (x4 + 1)) (lv' := [(4, .int (x4 + 1)), (3, .int (1 : Int32)), (0, .ref h_t), (1, .int x1), (2, .int x2)]) hx hb dX10_joinTurnsOf_95 hl (k := 4) rfl rfl (by decide) rfl (fun ls hl => ?_)
        refine lv_goto (tgt := 5) hx hb dX10_joinTurnsOf_98 (by decide) ?_
        exact rec5 (1 : Int32) (x4 + 1) t_classes_leader H locs ls h hP hD hS (lv_sub hl [2, 3, 4, 1, 0] rfl)
      refine lv_iload hx hb dX10_joinTurnsOf_5 (lv_at hl 4 rfl) ?_
      refine lv_aload_n hx hb dX10_joinTurnsOf_7 rfl (lv_at hl 0 rfl) ?_
      refine va_get (D := G) (ci := 9) (v := .ref (B_t 0)) (C := RX10) (T := TX10) (N := 15) hx hb hts inX10 hown hK hP 0 rfl rfl 0 (by decide) hf14 (fun _ h9 => h9) rfl dX10_joinTurnsOf_8 ?_
      refine va_getN (D := G) (ci := 6) (v := .int t_current_n) (C := RX7) (T := TX7) (N := 2) hx hb hts inX7 hown hK hP 3 rfl rfl 1 (by decide) (hE.nest args 0 _ rfl) (fun _ h9 => h9) rfl dX10_joinTurnsOf_11 ?_
      obtain ⟨ht, hf⟩ := h
      refine lv_icmp_ge (tgt := 101) hx hb dX10_joinTurnsOf_14 (by decide) (fun c9 => ?_) (fun c9 => ?_)
      · have h := ht c9
        refine lv_iload_n hx hb dX10_joinTurnsOf_101 rfl (lv_at hl 3 rfl) ?_
        obtain ⟨hz, h⟩ := h
        exact hret x3 t_classes_leader H locs ls _ hP hD hS hz h dX10_joinTurnsOf_102
      · have h := hf c9
        refine lv_aload_n hx hb dX10_joinTurnsOf_17 rfl (lv_at hl 0 rfl) ?_
        refine va_get (D := G) (ci := 9) (v := .ref (B_t 6)) (C := RX10) (T := TX10) (N := 15) hx hb hts inX10 hown hK hP 0 rfl rfl 6 (by decide) hf45 (fun _ h9 => h9) rfl dX10_joinTurnsOf_18 ?_
        refine lv_aload_n hx hb dX10_joinTurnsOf_21 rfl (lv_at hl 0 rfl) ?_
        refine va_get (D := G) (ci := 9) (v := .ref (B_t 0)) (C := RX10) (T := TX10) (N := 15) hx hb hts inX10 hown hK hP 0 rfl rfl 0 (by decide) hf14 (fun _ h9 => h9) rfl dX10_joinTurnsOf_22 ?_
        refine lv_iload_n hx hb dX10_joinTurnsOf_25 rfl (lv_at hl 1 rfl) ?_
        refine lv_iload hx hb dX10_joinTurnsOf_26 (lv_at hl 4 rfl) ?_
        refine mc_iV ⟨hx, hb, hml, hown, hts⟩ hK hE hA hP hD hS (c_X7_turned l G Y tF H.size (B_t 0) B_t_current t_current_n t_current_cells x1 x4 h) (cwV 2 hts gX10_joinTurnsOf_X7_turned rfl rfl rfl (by decide +kernel) ⟨Nat.le_trans (by decide) hRf, Nat.le_trans (by decide) hRl⟩) (fun u => (w_X10_joinTurnsOf Y h_t B_t B_t_classes B_t_current t_toldCount t_classes_n t_classes_leader t_current_n t_current_cells)) [3, 4] [0, 1, 2] [0, 1, 2, 3, 4] rfl rfl rfl rfl (by decide) (fun _ => rfl) rfl 3 6 rfl rfl rfl rfl hl.1 rfl (Nat.le_of_ble_eq_true rfl) dX10_joinTurnsOf_28 (fun r28 u H locs h hP hD hS => ?_)
        try dsimp only at h
        have hP : va_P G vwCl (w_X10_joinTurnsOf Y h_t B_t B_t_classes B_t_current t_toldCount t_classes_n t_classes_leader t_current_n t_current_cells) H := hP
        have hD : va_D A (w_X10_joinTurnsOf Y h_t B_t B_t_classes B_t_current t_toldCount t_classes_n t_classes_leader t_current_n t_current_cells) := hD
        refine lv_aload_n hx hb dX10_joinTurnsOf_31 rfl (lv_at hl 0 rfl) ?_
        refine va_get (D := G) (ci := 9) (v := .ref (B_t 0)) (C := RX10) (T := TX10) (N := 15) hx hb hts inX10 hown hK hP 0 rfl rfl 0 (by decide) hf14 (fun _ h9 => h9) rfl dX10_joinTurnsOf_32 ?_
        refine lv_iload_n hx hb dX10_joinTurnsOf_35 rfl (lv_at hl 2 rfl) ?_
        refine lv_iload hx hb dX10_joinTurnsOf_36 (lv_at hl 4 rfl) ?_
        refine mc_iV ⟨hx, hb, hml, hown, hts⟩ hK hE hA hP hD hS (c_X7_turned l G Y tF H.size (B_t 0) B_t_current t_current_n t_current_cells x2 x4 h) (cwV 2 hts gX10_joinTurnsOf_X7_turned rfl rfl rfl (by decide +kernel) ⟨Nat.le_trans (by decide) hRf, Nat.le_trans (by decide) hRl⟩) (fun u => (w_X10_joinTurnsOf Y h_t B_t B_t_classes B_t_current t_toldCount t_classes_n t_classes_leader t_current_n t_current_cells)) [3, 4] [0, 1, 2] [0, 1, 2, 3, 4] rfl rfl rfl rfl (by decide) (fun _ => rfl) rfl 3 6 rfl rfl rfl rfl hl.1 rfl (Nat.le_of_ble_eq_true rfl) dX10_joinTurnsOf_38 (fun r38 u H locs h hP hD hS => ?_)
        try dsimp only at h
        have hP : va_P G vwCl (w_X10_joinTurnsOf Y h_t B_t B_t_classes B_t_current t_toldCount t_classes_n t_classes_leader t_current_n t_current_cells) H := hP
        have hD : va_D A (w_X10_joinTurnsOf Y h_t B_t B_t_classes B_t_current t_toldCount t_classes_n t_classes_leader t_current_n t_current_cells) := hD
        refine mc_iV ⟨hx, hb, hml, hown, hts⟩ hK hE hA hP hD hS (c_X1_join l G Y tF H.size (B_t 6) B_t_classes t_classes_n t_classes_leader r28 r38 h) (cwV 2 hts gX10_joinTurnsOf_X1_join rfl rfl rfl (by decide +kernel) ⟨Nat.le_trans (by decide) hRf, Nat.le_trans (by decide) hRl⟩) (fun u => (w_X10_joinTurnsOf Y h_t B_t B_t_classes B_t_current t_toldCount t_classes_n u t_current_n t_current_cells)) [1, 2] [0, 3, 4] [0, 3, 4, 1, 2] rfl rfl rfl rfl (by decide) (fun _ => rfl) rfl 1 1 rfl rfl rfl rfl hl.1 rfl (Nat.le_of_ble_eq_true rfl) dX10_joinTurnsOf_41 (fun r41 u H locs h hP hD hS => ?_)
        obtain ⟨t_classes_leader_41, rfl⟩ : ∃ z, z = u := ⟨_, rfl⟩
        try dsimp only at h
        have hP : va_P G vwCl (w_X10_joinTurnsOf Y h_t B_t B_t_classes B_t_current t_toldCount t_classes_n t_classes_leader_41 t_current_n t_current_cells) H := hP
        have hD : va_D A (w_X10_joinTurnsOf Y h_t B_t B_t_classes B_t_current t_toldCount t_classes_n t_classes_leader_41 t_current_n t_current_cells) := hD
        refine lv_istore (lv' := [(5, .int r41), (0, .ref h_t), (1, .int x1), (2, .int x2), (3, .int x3), (4, .int x4)]) hx hb dX10_joinTurnsOf_44 hl (by decide) rfl (fun ls hl => ?_)
        refine lv_aload_n hx hb dX10_joinTurnsOf_46 rfl (lv_at hl 1 rfl) ?_
        refine va_get (D := G) (ci := 9) (v := .ref (B_t 6)) (C := RX10) (T := TX10) (N := 15) hx hb hts inX10 hown hK hP 0 rfl rfl 6 (by decide) hf45 (fun _ h9 => h9) rfl dX10_joinTurnsOf_47 ?_
        refine lv_aload_n hx hb dX10_joinTurnsOf_50 rfl (lv_at hl 1 rfl) ?_
        refine va_get (D := G) (ci := 9) (v := .ref (B_t 0)) (C := RX10) (T := TX10) (N := 15) hx hb hts inX10 hown hK hP 0 rfl rfl 0 (by decide) hf14 (fun _ h9 => h9) rfl dX10_joinTurnsOf_51 ?_
        refine lv_iload hx hb dX10_joinTurnsOf_54 (lv_at hl 5 rfl) ?_
        refine lv_iload_n hx hb dX10_joinTurnsOf_56 rfl (lv_at hl 2 rfl) ?_
        refine mc_iV ⟨hx, hb, hml, hown, hts⟩ hK hE hA hP hD hS (c_X7_turned l G Y tF H.size (B_t 0) B_t_current t_current_n t_current_cells x4 x1 h) (cwV 2 hts gX10_joinTurnsOf_X7_turned rfl rfl rfl (by decide +kernel) ⟨Nat.le_trans (by decide) hRf, Nat.le_trans (by decide) hRl⟩) (fun u => (w_X10_joinTurnsOf Y h_t B_t B_t_classes B_t_current t_toldCount t_classes_n t_classes_leader_41 t_current_n t_current_cells)) [3, 4] [0, 1, 2] [0, 1, 2, 3, 4] rfl rfl rfl rfl (by decide) (fun _ => rfl) rfl 3 6 rfl rfl rfl rfl hl.1 rfl (Nat.le_of_ble_eq_true rfl) dX10_joinTurnsOf_57 (fun r57 u H locs h hP hD hS => ?_)
        try dsimp only at h
        have hP : va_P G vwCl (w_X10_joinTurnsOf Y h_t B_t B_t_classes B_t_current t_toldCount t_classes_n t_classes_leader_41 t_current_n t_current_cells) H := hP
        have hD : va_D A (w_X10_joinTurnsOf Y h_t B_t B_t_classes B_t_current t_toldCount t_classes_n t_classes_leader_41 t_current_n t_current_cells) := hD
        refine lv_aload_n hx hb dX10_joinTurnsOf_60 rfl (lv_at hl 1 rfl) ?_
        refine va_get (D := G) (ci := 9) (v := .ref (B_t 0)) (C := RX10) (T := TX10) (N := 15) hx hb hts inX10 hown hK hP 0 rfl rfl 0 (by decide) hf14 (fun _ h9 => h9) rfl dX10_joinTurnsOf_61 ?_
        refine lv_iload hx hb dX10_joinTurnsOf_64 (lv_at hl 5 rfl) ?_
        refine lv_iload_n hx hb dX10_joinTurnsOf_66 rfl (lv_at hl 3 rfl) ?_
        refine mc_iV ⟨hx, hb, hml, hown, hts⟩ hK hE hA hP hD hS (c_X7_turned l G Y tF H.size (B_t 0) B_t_current t_current_n t_current_cells x4 x2 h) (cwV 2 hts gX10_joinTurnsOf_X7_turned rfl rfl rfl (by decide +kernel) ⟨Nat.le_trans (by decide) hRf, Nat.le_trans (by decide) hRl⟩) (fun u => (w_X10_joinTurnsOf Y h_t B_t B_t_classes B_t_current t_toldCount t_classes_n t_classes_leader_41 t_current_n t_current_cells)) [3, 4] [0, 1, 2] [0, 1, 2, 3, 4] rfl rfl rfl rfl (by decide) (fun _ => rfl) rfl 3 6 rfl rfl rfl rfl hl.1 rfl (Nat.le_of_ble_eq_true rfl) dX10_joinTurnsOf_67 (fun r67 u H locs h hP hD hS => ?_)
        try dsimp only at h
        have hP : va_P G vwCl (w_X10_joinTurnsOf Y h_t B_t B_t_classes B_t_current t_toldCount t_classes_n t_classes_leader_41 t_current_n t_current_cells) H := hP
        have hD : va_D A (w_X10_joinTurnsOf Y h_t B_t B_t_classes B_t_current t_toldCount t_classes_n t_classes_leader_41 t_current_n t_current_cells) := hD
        refine mc_iV ⟨hx, hb, hml, hown, hts⟩ hK hE hA hP hD hS (c_X1_join l G Y tF H.size (B_t 6) B_t_classes t_classes_n t_classes_leader_41 r57 r67 h) (cwV 2 hts gX10_joinTurnsOf_X1_join rfl rfl rfl (by decide +kernel) ⟨Nat.le_trans (by decide) hRf, Nat.le_trans (by decide) hRl⟩) (fun u => (w_X10_joinTurnsOf Y h_t B_t B_t_classes B_t_current t_toldCount t_classes_n u t_current_n t_current_cells)) [1, 2] [0, 3, 4] [0, 3, 4, 1, 2] rfl rfl rfl rfl (by decide) (fun _ => rfl) rfl 1 1 rfl rfl rfl rfl hl.1 rfl (Nat.le_of_ble_eq_true rfl) dX10_joinTurnsOf_70 (fun r70 u H locs h hP hD hS => ?_)
        obtain ⟨t_classes_leader_70, rfl⟩ : ∃ z, z = u := ⟨_, rfl⟩
        try dsimp only at h
        have hP : va_P G vwCl (w_X10_joinTurnsOf Y h_t B_t B_t_classes B_t_current t_toldCount t_classes_n t_classes_leader_70 t_current_n t_current_cells) H := hP
        have hD : va_D A (w_X10_joinTurnsOf Y h_t B_t B_t_classes B_t_current t_toldCount t_classes_n t_classes_leader_70 t_current_n t_current_cells) := hD
        refine lv_istore (lv' := [(6, .int r70), (5, .int r41), (0, .ref h_t), (1, .int x1), (2, .int x2), (3, .int x3), (4, .int x4)]) hx hb dX10_joinTurnsOf_73 hl (by decide) rfl (fun ls hl => ?_)
        refine lv_iload_n hx hb dX10_joinTurnsOf_75 rfl (lv_at hl 5 rfl) ?_
        obtain ⟨ht, hf⟩ := h
        refine lv_if_ne (tgt := 89) hx hb dX10_joinTurnsOf_76 (by decide) (fun c9 => ?_) (fun c9 => ?_)
        · have h := ht c9
          exact J89 x4 t_classes_leader_70 H locs ls h hP hD hS (lv_sub hl [2, 3, 4, 6] rfl)
        · have h := hf c9
          refine lv_iload hx hb dX10_joinTurnsOf_79 (lv_at hl 1 rfl) ?_
          obtain ⟨ht, hf⟩ := h
          refine lv_if_ne (tgt := 89) hx hb dX10_joinTurnsOf_81 (by decide) (fun c9 => ?_) (fun c9 => ?_)
          · have h := ht c9
            exact J89 x4 t_classes_leader_70 H locs ls h hP hD hS (lv_sub hl [2, 3, 4, 6] rfl)
          · have h := hf c9
            refine lv_iload hx hb dX10_joinTurnsOf_84 (lv_at hl 0 rfl) ?_
            obtain ⟨ht, hf⟩ := h
            refine lv_if_eq (tgt := 93) hx hb dX10_joinTurnsOf_86 (by decide) (fun c9 => ?_) (fun c9 => ?_)
            · have h := ht c9
              refine lv_iconst (v := 0) hx hb dX10_joinTurnsOf_93 (by decide) ?_
              refine lv_istore_n (lv' := [(3, .int (0 : Int32)), (6, .int r70), (5, .int r41), (0, .ref h_t), (1, .int x1), (2, .int x2), (4, .int x4)]) hx hb dX10_joinTurnsOf_94 rfl hl (by decide) rfl (fun ls hl => ?_)
              refine lv_iinc (v := (x4 + 1)) (lv' := [(4, .int (x4 + 1)), (3, .int (0 : Int32)), (6, .int r70), (5, .int r41), (0, .ref h_t), (1, .int x1), (2, .int x2)]) hx hb dX10_joinTurnsOf_95 hl (k := 6) rfl rfl (by decide) rfl (fun ls hl => ?_)
              refine lv_goto (tgt := 5) hx hb dX10_joinTurnsOf_98 (by decide) ?_
              exact rec5 (0 : Int32) (x4 + 1) t_classes_leader_70 H locs ls h hP hD hS (lv_sub hl [4, 5, 6, 1, 0] rfl)
            · have h := hf c9
              exact J89 x4 t_classes_leader_70 H locs ls h hP hD hS (lv_sub hl [2, 3, 4, 6] rfl)
  exact L5 x1 x2 I5 m5 hB5 _ (0 : Int32) (0 : Int32) t_classes_leader H locs ls hI5 (Nat.lt_succ_self _) hP hD hS (lv_sub hl [2, 3, 4, 1, 0] rfl)

set_option maxHeartbeats 4000000 in
set_option maxRecDepth 100000 in
theorem c_X10_joinTurnsOf (l : Launch) (G : va_G) (Y : Nat → ClassId) (tF sz : Nat) (h_t : Nat) (B_t : Nat → Nat) (B_t_classes : Nat → Nat) (B_t_current : Nat → Nat) (t_toldCount : Int32) (t_classes_n : Int32) (t_classes_leader : Nat → Int32) (t_current_n : Int32) (t_current_cells : Nat → Int32) (x1 : Int32) (x2 : Int32) {K : Int32 → (Nat → Int32) → Prop} (h : pX10_joinTurnsOf t_classes_n t_classes_leader t_current_n t_current_cells x1 x2 K) : Met l yX10_joinTurnsOf wsX10_joinTurnsOf ({ frames := 2, cells := 0, slots := 0, locals := 49 }) (PcM G Y tF sz (w_X10_joinTurnsOf Y h_t B_t B_t_classes B_t_current t_toldCount t_classes_n t_classes_leader t_current_n t_current_cells) [.ref h_t, .int x1, .int x2]) (va_Qi (fun (r : Int32) (u : (Nat → Int32)) => K r u) (fun u t => BM G Y (va_A (w_X10_joinTurnsOf Y h_t B_t B_t_classes B_t_current t_toldCount t_classes_n t_classes_leader t_current_n t_current_cells) sz) (w_X10_joinTurnsOf Y h_t B_t B_t_classes B_t_current t_toldCount t_classes_n u t_current_n t_current_cells) t) (va_A (w_X10_joinTurnsOf Y h_t B_t B_t_classes B_t_current t_toldCount t_classes_n t_classes_leader t_current_n t_current_cells) sz)) 0 0 (va_A (w_X10_joinTurnsOf Y h_t B_t B_t_classes B_t_current t_toldCount t_classes_n t_classes_leader t_current_n t_current_cells) sz) := by
  refine Met.ofW (cc := cX10_joinTurnsOf) (maxL := 7) (ret := (some .boolean)) (by decide +kernel) rfl ?_
  intro p e s m args below meth c s₁ B hml hv
  obtain ⟨rfl, hsz, hP, hK, hD0, hE⟩ := hv
  have hts := atoms_spec (ws := wsX10_joinTurnsOf) B.pre
  have hown : s.vm.findClass RX10 = some m.cls := findClass_of_methodNamed B.named
  have hlocks := B.notSynchronized
  subst hsz
  have hD := hD0.self (sz := s.heap.size)
  exact wk_X10_joinTurnsOf h_t B_t B_t_classes B_t_current t_toldCount t_classes_n t_classes_leader t_current_n t_current_cells x1 x2 B.exec B.bytes hml hown hts hK hE (fun q h => Or.inr h) (Nat.le_refl _) (Nat.le_refl _) (fun r t_classes_leader H locs ls pc hP hD hS hz hk hd => W.zret (v := r) B.exec B.bytes B.returns hz.n (fun t ht hW => ⟨⟨r, t_classes_leader, rfl, hk, by rw [ht]; exact hP, va_K.moved hW.alike hK, hD⟩, hS.F ht⟩) hS.2.2 hd) hP hD h

abbrev w_X10_joinWhatMustBeOne (Y : Nat → ClassId) (h_t : Nat) (B_t : Nat → Nat) (B_t_classes : Nat → Nat) (B_t_current : Nat → Nat) (t_toldCount : Int32) (t_classes_n : Int32) (t_classes_leader : Nat → Int32) (t_current_n : Int32) (t_current_cells : Nat → Int32) : va_W := [(h_t, .inr (9, [.ref (B_t 0), .ref (B_t 1), .ref (B_t 2), .ref (B_t 3), .ref (B_t 4), .ref (B_t 5), .ref (B_t 6), .ref (B_t 7), .ref (B_t 8), .ref (B_t 9), .ref (B_t 10), .ref (B_t 11), .ref (B_t 12), .ref (B_t 13), .int t_toldCount])), ((B_t 6), .inr (1, [.ref (B_t_classes 0), .ref (B_t_classes 1), .int t_classes_n])), ((B_t_classes 0), .inl (Y 0, 8, .inl t_classes_leader)), ((B_t 0), .inr (6, [.ref (B_t_current 0), .int t_current_n])), ((B_t_current 0), .inl (Y 0, 64, .inl t_current_cells))]

set_option maxHeartbeats 4000000 in
set_option maxRecDepth 100000 in
theorem wk_X10_joinWhatMustBeOne {p : Program} {l : Launch} {e : Env} {R : Room} {s : State} {m : MethodId} {args : Array Value} {below : List Frame} {meth : Method} {c : Code} {Q : State → Prop} {G : va_G} {Y : Nat → ClassId} {tF : Nat} {A : Nat → Prop} (h_t : Nat) (B_t : Nat → Nat) (B_t_classes : Nat → Nat) (B_t_current : Nat → Nat) (t_toldCount : Int32) (t_classes_n : Int32) (t_classes_leader : Nat → Int32) (t_current_n : Int32) (t_current_cells : Nat → Int32) {K : (Nat → Int32) → Prop} (hx : p.tables.exec = Jvm.exec) (hb : c.code = cX10_joinWhatMustBeOne) (hml : c.maxLocals = 5) (hown : s.vm.findClass RX10 = some m.cls) (hts : ∀ w ∈ wsX10_joinWhatMustBeOne, w.before args s = true) (hK : va_K G vwCl (tyL Y) s) (hE : Ev A tF s) (hA : ∀ q, s.heap.size ≤ q → A q) (hRf : 3 ≤ R.frames) (hRl : 75 ≤ R.locals) (hret : ∀ (t_classes_leader : Nat → Int32) (H : Heap) (locs : List Loc) (ls : Array Slot) (pc : Nat), va_P G vwCl (w_X10_joinWhatMustBeOne Y h_t B_t B_t_classes B_t_current t_toldCount t_classes_n t_classes_leader t_current_n t_current_cells) H → va_D A (w_X10_joinWhatMustBeOne Y h_t B_t B_t_classes B_t_current t_toldCount t_classes_n t_classes_leader t_current_n t_current_cells) → va_S A s.heap H locs → K t_classes_leader → decode cX10_joinWhatMustBeOne pc = .ok (.return_, 1) → W p l e R s m args below meth c H locs 0 0 Q (F0 m pc ls [])) (hP : va_P G vwCl (w_X10_joinWhatMustBeOne Y h_t B_t B_t_classes B_t_current t_toldCount t_classes_n t_classes_leader t_current_n t_current_cells) s.heap) (hD : va_D A (w_X10_joinWhatMustBeOne Y h_t B_t B_t_classes B_t_current t_toldCount t_classes_n t_classes_leader t_current_n t_current_cells)) (h : pX10_joinWhatMustBeOne t_classes_n t_classes_leader t_current_n t_current_cells K) : W p l e R s m args below meth c s.heap [] 0 0 Q (entryFrame m ([.ref h_t] : List Value).toArray 5) := by
  have inX10 : ∀ w ∈ u_ws RX10 TX10 15, w ∈ wsX10_joinWhatMustBeOne := by decide +kernel
  have inX7 : ∀ w ∈ u_ws RX7 TX7 2, w ∈ wsX10_joinWhatMustBeOne := by decide +kernel
  have hf14 := hts (.fieldLink RX10 14 "RackBench" "current" "LRackBench$Table;") (by decide +kernel)
  have hf45 := hts (.fieldLink RX10 45 "RackBench" "classes" "LRackBench$Classes;") (by decide +kernel)
  have hl := lv_entry ([.ref h_t]) (n := 5) (Nat.le_of_ble_eq_true rfl)
  rw [lg_entry_eq]
  generalize (lg_sl ([.ref h_t]) ++ List.replicate (5 - (lg_sl ([.ref h_t])).length) Slot.unset).toArray = ls at hl ⊢
  have hl : lv_has ls 5 [(0, .ref h_t)] := hl
  generalize hH0 : s.heap = H at hP ⊢
  have hS : va_S A s.heap H [] := by rw [← hH0]; exact va_S.rf
  clear hH0
  generalize ([] : List Loc) = locs at hS ⊢
  refine lv_iconst (v := 1) hx hb dX10_joinWhatMustBeOne_0 (by decide) ?_
  refine lv_istore_n (lv' := [(1, .int (1 : Int32)), (0, .ref h_t)]) hx hb dX10_joinWhatMustBeOne_1 rfl hl (by decide) rfl (fun ls hl => ?_)
  refine lv_iconst (v := 0) hx hb dX10_joinWhatMustBeOne_2 (by decide) ?_
  refine lv_istore_n (lv' := [(2, .int (0 : Int32)), (1, .int (1 : Int32)), (0, .ref h_t)]) hx hb dX10_joinWhatMustBeOne_3 rfl hl (by decide) rfl (fun ls hl => ?_)
  obtain ⟨I4, m4, hI4, hB4⟩ := h
  have L4 : ∀  (I4 : Int32 → Int32 → (Nat → Int32) → Prop) (m4 : Int32 → Int32 → (Nat → Int32) → Nat), (∀ (x1 : Int32) (x2 : Int32) (t_classes_leader : Nat → Int32), I4 x1 x2 t_classes_leader → pX10_joinWhatMustBeOne_4 t_classes_n t_current_n t_current_cells K x1 x2 t_classes_leader (fun x1' x2' t_classes_leader' => I4 x1' x2' t_classes_leader' ∧ m4 x1' x2' t_classes_leader' < m4 x1 x2 t_classes_leader)) → ∀ (n : Nat) (x1 : Int32) (x2 : Int32) (t_classes_leader : Nat → Int32) (H : Heap) (locs : List Loc) (ls : Array Slot), I4 x1 x2 t_classes_leader → m4 x1 x2 t_classes_leader < n → va_P G vwCl (w_X10_joinWhatMustBeOne Y h_t B_t B_t_classes B_t_current t_toldCount t_classes_n t_classes_leader t_current_n t_current_cells) H → va_D A (w_X10_joinWhatMustBeOne Y h_t B_t B_t_classes B_t_current t_toldCount t_classes_n t_classes_leader t_current_n t_current_cells) → va_S A s.heap H locs → lv_has ls 5 [(0, .ref h_t), (1, .int x1), (2, .int x2)] → W p l e R s m args below meth c H locs 0 0 Q (F0 m 4 ls []) := by
    intro  I4 m4 hB4 n
    induction n with
    | zero => intro x1 x2 t_classes_leader H locs ls _ hm; exact absurd hm (Nat.not_lt_zero _)
    | succ n ih =>
      intro x1 x2 t_classes_leader H locs ls hI hm hP hD hS hl
      obtain ⟨R4, h, rec4⟩ : ∃ R4 : Int32 → Int32 → (Nat → Int32) → Prop, pX10_joinWhatMustBeOne_4 t_classes_n t_current_n t_current_cells K x1 x2 t_classes_leader R4 ∧ ∀ (x1 : Int32) (x2 : Int32) (t_classes_leader : Nat → Int32) (H : Heap) (locs : List Loc) (ls : Array Slot), R4 x1 x2 t_classes_leader → va_P G vwCl (w_X10_joinWhatMustBeOne Y h_t B_t B_t_classes B_t_current t_toldCount t_classes_n t_classes_leader t_current_n t_current_cells) H → va_D A (w_X10_joinWhatMustBeOne Y h_t B_t B_t_classes B_t_current t_toldCount t_classes_n t_classes_leader t_current_n t_current_cells) → va_S A s.heap H locs → lv_has ls 5 [(0, .ref h_t), (1, .int x1), (2, .int x2)] → W p l e R s m args below meth c H locs 0 0 Q (F0 m 4 ls []) := ⟨_, hB4 x1 x2 t_classes_leader hI, fun x1 x2 t_classes_leader H locs ls hh hP hD hS hl => ih x1 x2 t_classes_leader H locs ls hh.1 (Nat.lt_of_lt_of_le hh.2 (Nat.le_of_lt_succ hm)) hP hD hS hl⟩
      refine lv_iload_n hx hb dX10_joinWhatMustBeOne_4 rfl (lv_at hl 2 rfl) ?_
      refine lv_aload_n hx hb dX10_joinWhatMustBeOne_5 rfl (lv_at hl 0 rfl) ?_
      refine va_get (D := G) (ci := 9) (v := .ref (B_t 0)) (C := RX10) (T := TX10) (N := 15) hx hb hts inX10 hown hK hP 0 rfl rfl 0 (by decide) hf14 (fun _ h9 => h9) rfl dX10_joinWhatMustBeOne_6 ?_
      refine va_getN (D := G) (ci := 6) (v := .int t_current_n) (C := RX7) (T := TX7) (N := 2) hx hb hts inX7 hown hK hP 3 rfl rfl 1 (by decide) (hE.nest args 0 _ rfl) (fun _ h9 => h9) rfl dX10_joinWhatMustBeOne_9 ?_
      obtain ⟨ht, hf⟩ := h
      refine lv_icmp_ge (tgt := 94) hx hb dX10_joinWhatMustBeOne_12 (by decide) (fun c9 => ?_) (fun c9 => ?_)
      · have h := ht c9
        exact hret t_classes_leader H locs ls _ hP hD hS h dX10_joinWhatMustBeOne_94
      · have h := hf c9
        refine lv_iload_n hx hb dX10_joinWhatMustBeOne_15 rfl (lv_at hl 1 rfl) ?_
        obtain ⟨ht, hf⟩ := h
        refine lv_if_eq (tgt := 94) hx hb dX10_joinWhatMustBeOne_16 (by decide) (fun c9 => ?_) (fun c9 => ?_)
        · have h := ht c9
          exact hret t_classes_leader H locs ls _ hP hD hS h dX10_joinWhatMustBeOne_94
        · have h := hf c9
          refine lv_iconst (v := 0) hx hb dX10_joinWhatMustBeOne_19 (by decide) ?_
          refine lv_istore_n (lv' := [(1, .int (0 : Int32)), (0, .ref h_t), (2, .int x2)]) hx hb dX10_joinWhatMustBeOne_20 rfl hl (by decide) rfl (fun ls hl => ?_)
          refine lv_iconst (v := 0) hx hb dX10_joinWhatMustBeOne_21 (by decide) ?_
          refine lv_istore_n (lv' := [(3, .int (0 : Int32)), (1, .int (0 : Int32)), (0, .ref h_t), (2, .int x2)]) hx hb dX10_joinWhatMustBeOne_22 rfl hl (by decide) rfl (fun ls hl => ?_)
          obtain ⟨I23, m23, hI23, hB23⟩ := h
          have L23 : ∀ (x2 : Int32) (I23 : Int32 → Int32 → (Nat → Int32) → Prop) (m23 : Int32 → Int32 → (Nat → Int32) → Nat), (∀ (x1 : Int32) (x3 : Int32) (t_classes_leader : Nat → Int32), I23 x1 x3 t_classes_leader → pX10_joinWhatMustBeOne_23 t_classes_n t_current_n t_current_cells R4 K x2 x1 x3 t_classes_leader (fun x1' x3' t_classes_leader' => I23 x1' x3' t_classes_leader' ∧ m23 x1' x3' t_classes_leader' < m23 x1 x3 t_classes_leader)) → ∀ (n : Nat) (x1 : Int32) (x3 : Int32) (t_classes_leader : Nat → Int32) (H : Heap) (locs : List Loc) (ls : Array Slot), I23 x1 x3 t_classes_leader → m23 x1 x3 t_classes_leader < n → va_P G vwCl (w_X10_joinWhatMustBeOne Y h_t B_t B_t_classes B_t_current t_toldCount t_classes_n t_classes_leader t_current_n t_current_cells) H → va_D A (w_X10_joinWhatMustBeOne Y h_t B_t B_t_classes B_t_current t_toldCount t_classes_n t_classes_leader t_current_n t_current_cells) → va_S A s.heap H locs → lv_has ls 5 [(0, .ref h_t), (1, .int x1), (2, .int x2), (3, .int x3)] → W p l e R s m args below meth c H locs 0 0 Q (F0 m 23 ls []) := by
            intro x2 I23 m23 hB23 n
            induction n with
            | zero => intro x1 x3 t_classes_leader H locs ls _ hm; exact absurd hm (Nat.not_lt_zero _)
            | succ n ih =>
              intro x1 x3 t_classes_leader H locs ls hI hm hP hD hS hl
              obtain ⟨R23, h, rec23⟩ : ∃ R23 : Int32 → Int32 → (Nat → Int32) → Prop, pX10_joinWhatMustBeOne_23 t_classes_n t_current_n t_current_cells R4 K x2 x1 x3 t_classes_leader R23 ∧ ∀ (x1 : Int32) (x3 : Int32) (t_classes_leader : Nat → Int32) (H : Heap) (locs : List Loc) (ls : Array Slot), R23 x1 x3 t_classes_leader → va_P G vwCl (w_X10_joinWhatMustBeOne Y h_t B_t B_t_classes B_t_current t_toldCount t_classes_n t_classes_leader t_current_n t_current_cells) H → va_D A (w_X10_joinWhatMustBeOne Y h_t B_t B_t_classes B_t_current t_toldCount t_classes_n t_classes_leader t_current_n t_current_cells) → va_S A s.heap H locs → lv_has ls 5 [(0, .ref h_t), (1, .int x1), (2, .int x2), (3, .int x3)] → W p l e R s m args below meth c H locs 0 0 Q (F0 m 23 ls []) := ⟨_, hB23 x1 x3 t_classes_leader hI, fun x1 x3 t_classes_leader H locs ls hh hP hD hS hl => ih x1 x3 t_classes_leader H locs ls hh.1 (Nat.lt_of_lt_of_le hh.2 (Nat.le_of_lt_succ hm)) hP hD hS hl⟩
              refine lv_iload_n hx hb dX10_joinWhatMustBeOne_23 rfl (lv_at hl 3 rfl) ?_
              refine lv_aload_n hx hb dX10_joinWhatMustBeOne_24 rfl (lv_at hl 0 rfl) ?_
              refine va_get (D := G) (ci := 9) (v := .ref (B_t 0)) (C := RX10) (T := TX10) (N := 15) hx hb hts inX10 hown hK hP 0 rfl rfl 0 (by decide) hf14 (fun _ h9 => h9) rfl dX10_joinWhatMustBeOne_25 ?_
              refine va_getN (D := G) (ci := 6) (v := .int t_current_n) (C := RX7) (T := TX7) (N := 2) hx hb hts inX7 hown hK hP 3 rfl rfl 1 (by decide) (hE.nest args 0 _ rfl) (fun _ h9 => h9) rfl dX10_joinWhatMustBeOne_28 ?_
              obtain ⟨ht, hf⟩ := h
              refine lv_icmp_ge (tgt := 88) hx hb dX10_joinWhatMustBeOne_31 (by decide) (fun c9 => ?_) (fun c9 => ?_)
              · have h := ht c9
                refine lv_iinc (v := (x2 + 1)) (lv' := [(2, .int (x2 + 1)), (0, .ref h_t), (1, .int x1), (3, .int x3)]) hx hb dX10_joinWhatMustBeOne_88 hl (k := 2) rfl rfl (by decide) rfl (fun ls hl => ?_)
                refine lv_goto (tgt := 4) hx hb dX10_joinWhatMustBeOne_91 (by decide) ?_
                exact rec4 x1 (x2 + 1) t_classes_leader H locs ls h hP hD hS (lv_sub hl [1, 2, 0] rfl)
              · have h := hf c9
                refine lv_iload_n hx hb dX10_joinWhatMustBeOne_34 rfl (lv_at hl 3 rfl) ?_
                refine lv_iconst (v := 1) hx hb dX10_joinWhatMustBeOne_35 (by decide) ?_
                refine lv_iadd hx hb dX10_joinWhatMustBeOne_36 ?_
                refine lv_istore (lv' := [(4, .int (x3 + (1 : Int32))), (0, .ref h_t), (1, .int x1), (2, .int x2), (3, .int x3)]) hx hb dX10_joinWhatMustBeOne_37 hl (by decide) rfl (fun ls hl => ?_)
                obtain ⟨I39, m39, hI39, hB39⟩ := h
                have L39 : ∀ (x3 : Int32) (I39 : Int32 → Int32 → (Nat → Int32) → Prop) (m39 : Int32 → Int32 → (Nat → Int32) → Nat), (∀ (x1 : Int32) (x4 : Int32) (t_classes_leader : Nat → Int32), I39 x1 x4 t_classes_leader → pX10_joinWhatMustBeOne_39 t_classes_n t_current_n t_current_cells R4 R23 K x2 x3 x1 x4 t_classes_leader (fun x1' x4' t_classes_leader' => I39 x1' x4' t_classes_leader' ∧ m39 x1' x4' t_classes_leader' < m39 x1 x4 t_classes_leader)) → ∀ (n : Nat) (x1 : Int32) (x4 : Int32) (t_classes_leader : Nat → Int32) (H : Heap) (locs : List Loc) (ls : Array Slot), I39 x1 x4 t_classes_leader → m39 x1 x4 t_classes_leader < n → va_P G vwCl (w_X10_joinWhatMustBeOne Y h_t B_t B_t_classes B_t_current t_toldCount t_classes_n t_classes_leader t_current_n t_current_cells) H → va_D A (w_X10_joinWhatMustBeOne Y h_t B_t B_t_classes B_t_current t_toldCount t_classes_n t_classes_leader t_current_n t_current_cells) → va_S A s.heap H locs → lv_has ls 5 [(0, .ref h_t), (1, .int x1), (2, .int x2), (3, .int x3), (4, .int x4)] → W p l e R s m args below meth c H locs 0 0 Q (F0 m 39 ls []) := by
                  intro x3 I39 m39 hB39 n
                  induction n with
                  | zero => intro x1 x4 t_classes_leader H locs ls _ hm; exact absurd hm (Nat.not_lt_zero _)
                  | succ n ih =>
                    intro x1 x4 t_classes_leader H locs ls hI hm hP hD hS hl
                    obtain ⟨R39, h, rec39⟩ : ∃ R39 : Int32 → Int32 → (Nat → Int32) → Prop, pX10_joinWhatMustBeOne_39 t_classes_n t_current_n t_current_cells R4 R23 K x2 x3 x1 x4 t_classes_leader R39 ∧ ∀ (x1 : Int32) (x4 : Int32) (t_classes_leader : Nat → Int32) (H : Heap) (locs : List Loc) (ls : Array Slot), R39 x1 x4 t_classes_leader → va_P G vwCl (w_X10_joinWhatMustBeOne Y h_t B_t B_t_classes B_t_current t_toldCount t_classes_n t_classes_leader t_current_n t_current_cells) H → va_D A (w_X10_joinWhatMustBeOne Y h_t B_t B_t_classes B_t_current t_toldCount t_classes_n t_classes_leader t_current_n t_current_cells) → va_S A s.heap H locs → lv_has ls 5 [(0, .ref h_t), (1, .int x1), (2, .int x2), (3, .int x3), (4, .int x4)] → W p l e R s m args below meth c H locs 0 0 Q (F0 m 39 ls []) := ⟨_, hB39 x1 x4 t_classes_leader hI, fun x1 x4 t_classes_leader H locs ls hh hP hD hS hl => ih x1 x4 t_classes_leader H locs ls hh.1 (Nat.lt_of_lt_of_le hh.2 (Nat.le_of_lt_succ hm)) hP hD hS hl⟩
                    refine lv_iload hx hb dX10_joinWhatMustBeOne_39 (lv_at hl 4 rfl) ?_
                    refine lv_aload_n hx hb dX10_joinWhatMustBeOne_41 rfl (lv_at hl 0 rfl) ?_
                    refine va_get (D := G) (ci := 9) (v := .ref (B_t 0)) (C := RX10) (T := TX10) (N := 15) hx hb hts inX10 hown hK hP 0 rfl rfl 0 (by decide) hf14 (fun _ h9 => h9) rfl dX10_joinWhatMustBeOne_42 ?_
                    refine va_getN (D := G) (ci := 6) (v := .int t_current_n) (C := RX7) (T := TX7) (N := 2) hx hb hts inX7 hown hK hP 3 rfl rfl 1 (by decide) (hE.nest args 0 _ rfl) (fun _ h9 => h9) rfl dX10_joinWhatMustBeOne_45 ?_
                    obtain ⟨ht, hf⟩ := h
                    refine lv_icmp_ge (tgt := 82) hx hb dX10_joinWhatMustBeOne_48 (by decide) (fun c9 => ?_) (fun c9 => ?_)
                    · have h := ht c9
                      refine lv_iinc (v := (x3 + 1)) (lv' := [(3, .int (x3 + 1)), (0, .ref h_t), (1, .int x1), (2, .int x2), (4, .int x4)]) hx hb dX10_joinWhatMustBeOne_82 hl (k := 3) rfl rfl (by decide) rfl (fun ls hl => ?_)
                      refine lv_goto (tgt := 23) hx hb dX10_joinWhatMustBeOne_85 (by decide) ?_
                      exact rec23 x1 (x3 + 1) t_classes_leader H locs ls h hP hD hS (lv_sub hl [1, 2, 3, 0] rfl)
                    · have h := hf c9
                      refine lv_aload_n hx hb dX10_joinWhatMustBeOne_51 rfl (lv_at hl 0 rfl) ?_
                      refine va_get (D := G) (ci := 9) (v := .ref (B_t 6)) (C := RX10) (T := TX10) (N := 15) hx hb hts inX10 hown hK hP 0 rfl rfl 6 (by decide) hf45 (fun _ h9 => h9) rfl dX10_joinWhatMustBeOne_52 ?_
                      refine lv_iload_n hx hb dX10_joinWhatMustBeOne_55 rfl (lv_at hl 3 rfl) ?_
                      refine lv_iload hx hb dX10_joinWhatMustBeOne_56 (lv_at hl 4 rfl) ?_
                      refine mc_iV ⟨hx, hb, hml, hown, hts⟩ hK hE hA hP hD hS (c_X1_areOne l G Y tF H.size (B_t 6) B_t_classes t_classes_n t_classes_leader x3 x4 h) (cwV 2 hts gX10_joinWhatMustBeOne_X1_areOne rfl rfl rfl (by decide +kernel) ⟨Nat.le_trans (by decide) hRf, Nat.le_trans (by decide) hRl⟩) (fun u => (w_X10_joinWhatMustBeOne Y h_t B_t B_t_classes B_t_current t_toldCount t_classes_n t_classes_leader t_current_n t_current_cells)) [1, 2] [0, 3, 4] [0, 3, 4, 1, 2] rfl rfl rfl rfl (by decide) (fun _ => rfl) rfl 1 1 rfl rfl rfl rfl hl.1 rfl (Nat.le_of_ble_eq_true rfl) dX10_joinWhatMustBeOne_58 (fun r58 u H locs h hP hD hS => ?_)
                      try dsimp only at h
                      have hP : va_P G vwCl (w_X10_joinWhatMustBeOne Y h_t B_t B_t_classes B_t_current t_toldCount t_classes_n t_classes_leader t_current_n t_current_cells) H := hP
                      have hD : va_D A (w_X10_joinWhatMustBeOne Y h_t B_t B_t_classes B_t_current t_toldCount t_classes_n t_classes_leader t_current_n t_current_cells) := hD
                      obtain ⟨ht, hf⟩ := h
                      refine lv_if_eq (tgt := 76) hx hb dX10_joinWhatMustBeOne_61 (by decide) (fun c9 => ?_) (fun c9 => ?_)
                      · have h := ht c9
                        refine lv_iinc (v := (x4 + 1)) (lv' := [(4, .int (x4 + 1)), (0, .ref h_t), (1, .int x1), (2, .int x2), (3, .int x3)]) hx hb dX10_joinWhatMustBeOne_76 hl (k := 4) rfl rfl (by decide) rfl (fun ls hl => ?_)
                        refine lv_goto (tgt := 39) hx hb dX10_joinWhatMustBeOne_79 (by decide) ?_
                        exact rec39 x1 (x4 + 1) t_classes_leader H locs ls h hP hD hS (lv_sub hl [1, 2, 3, 4, 0] rfl)
                      · have h := hf c9
                        refine lv_aload_n hx hb dX10_joinWhatMustBeOne_64 rfl (lv_at hl 0 rfl) ?_
                        refine lv_iload_n hx hb dX10_joinWhatMustBeOne_65 rfl (lv_at hl 3 rfl) ?_
                        refine lv_iload hx hb dX10_joinWhatMustBeOne_66 (lv_at hl 4 rfl) ?_
                        refine mc_iV ⟨hx, hb, hml, hown, hts⟩ hK hE hA hP hD hS (c_X10_joinTurnsOf l G Y tF H.size h_t B_t B_t_classes B_t_current t_toldCount t_classes_n t_classes_leader t_current_n t_current_cells x3 x4 h) (cwV 2 hts gX10_joinWhatMustBeOne_X10_joinTurnsOf rfl rfl rfl (by decide +kernel) ⟨Nat.le_trans (by decide) hRf, Nat.le_trans (by decide) hRl⟩) (fun u => (w_X10_joinWhatMustBeOne Y h_t B_t B_t_classes B_t_current t_toldCount t_classes_n u t_current_n t_current_cells)) [0, 1, 2, 3, 4] [] [0, 1, 2, 3, 4] rfl rfl rfl rfl (by decide) (fun _ => rfl) rfl 0 9 rfl rfl rfl rfl hl.1 rfl (Nat.le_of_ble_eq_true rfl) dX10_joinWhatMustBeOne_68 (fun r68 u H locs h hP hD hS => ?_)
                        obtain ⟨t_classes_leader_68, rfl⟩ : ∃ z, z = u := ⟨_, rfl⟩
                        try dsimp only at h
                        have hP : va_P G vwCl (w_X10_joinWhatMustBeOne Y h_t B_t B_t_classes B_t_current t_toldCount t_classes_n t_classes_leader_68 t_current_n t_current_cells) H := hP
                        have hD : va_D A (w_X10_joinWhatMustBeOne Y h_t B_t B_t_classes B_t_current t_toldCount t_classes_n t_classes_leader_68 t_current_n t_current_cells) := hD
                        obtain ⟨ht, hf⟩ := h
                        refine lv_if_eq (tgt := 76) hx hb dX10_joinWhatMustBeOne_71 (by decide) (fun c9 => ?_) (fun c9 => ?_)
                        · have h := ht c9
                          refine lv_iinc (v := (x4 + 1)) (lv' := [(4, .int (x4 + 1)), (0, .ref h_t), (1, .int x1), (2, .int x2), (3, .int x3)]) hx hb dX10_joinWhatMustBeOne_76 hl (k := 4) rfl rfl (by decide) rfl (fun ls hl => ?_)
                          refine lv_goto (tgt := 39) hx hb dX10_joinWhatMustBeOne_79 (by decide) ?_
                          exact rec39 x1 (x4 + 1) t_classes_leader_68 H locs ls h hP hD hS (lv_sub hl [1, 2, 3, 4, 0] rfl)
                        · have h := hf c9
                          refine lv_iconst (v := 1) hx hb dX10_joinWhatMustBeOne_74 (by decide) ?_
                          refine lv_istore_n (lv' := [(1, .int (1 : Int32)), (0, .ref h_t), (2, .int x2), (3, .int x3), (4, .int x4)]) hx hb dX10_joinWhatMustBeOne_75 rfl hl (by decide) rfl (fun ls hl => ?_)
                          refine lv_iinc (v := (x4 + 1)) (lv' := [(4, .int (x4 + 1)), (1, .int (1 : Int32)), (0, .ref h_t), (2, .int x2), (3, .int x3)]) hx hb dX10_joinWhatMustBeOne_76 hl (k := 4) rfl rfl (by decide) rfl (fun ls hl => ?_)
                          refine lv_goto (tgt := 39) hx hb dX10_joinWhatMustBeOne_79 (by decide) ?_
                          exact rec39 (1 : Int32) (x4 + 1) t_classes_leader_68 H locs ls h hP hD hS (lv_sub hl [2, 1, 3, 4, 0] rfl)
                exact L39 x3 I39 m39 hB39 _ x1 (x3 + (1 : Int32)) t_classes_leader H locs ls hI39 (Nat.lt_succ_self _) hP hD hS (lv_sub hl [1, 2, 3, 4, 0] rfl)
          exact L23 x2 I23 m23 hB23 _ (0 : Int32) (0 : Int32) t_classes_leader H locs ls hI23 (Nat.lt_succ_self _) hP hD hS (lv_sub hl [2, 1, 3, 0] rfl)
  exact L4  I4 m4 hB4 _ (1 : Int32) (0 : Int32) t_classes_leader H locs ls hI4 (Nat.lt_succ_self _) hP hD hS (lv_sub hl [2, 1, 0] rfl)

set_option maxHeartbeats 4000000 in
set_option maxRecDepth 100000 in
theorem c_X10_joinWhatMustBeOne (l : Launch) (G : va_G) (Y : Nat → ClassId) (tF sz : Nat) (h_t : Nat) (B_t : Nat → Nat) (B_t_classes : Nat → Nat) (B_t_current : Nat → Nat) (t_toldCount : Int32) (t_classes_n : Int32) (t_classes_leader : Nat → Int32) (t_current_n : Int32) (t_current_cells : Nat → Int32) {K : (Nat → Int32) → Prop} (h : pX10_joinWhatMustBeOne t_classes_n t_classes_leader t_current_n t_current_cells K) : Met l yX10_joinWhatMustBeOne wsX10_joinWhatMustBeOne ({ frames := 3, cells := 0, slots := 0, locals := 75 }) (PcM G Y tF sz (w_X10_joinWhatMustBeOne Y h_t B_t B_t_classes B_t_current t_toldCount t_classes_n t_classes_leader t_current_n t_current_cells) [.ref h_t]) (va_Qv (fun u : (Nat → Int32) => K u) (fun u t => BM G Y (va_A (w_X10_joinWhatMustBeOne Y h_t B_t B_t_classes B_t_current t_toldCount t_classes_n t_classes_leader t_current_n t_current_cells) sz) (w_X10_joinWhatMustBeOne Y h_t B_t B_t_classes B_t_current t_toldCount t_classes_n u t_current_n t_current_cells) t) (va_A (w_X10_joinWhatMustBeOne Y h_t B_t B_t_classes B_t_current t_toldCount t_classes_n t_classes_leader t_current_n t_current_cells) sz)) 0 0 (va_A (w_X10_joinWhatMustBeOne Y h_t B_t B_t_classes B_t_current t_toldCount t_classes_n t_classes_leader t_current_n t_current_cells) sz) := by
  refine Met.ofW (cc := cX10_joinWhatMustBeOne) (maxL := 5) (ret := none) (by decide +kernel) rfl ?_
  intro p e s m args below meth c s₁ B hml hv
  obtain ⟨rfl, hsz, hP, hK, hD0, hE⟩ := hv
  have hts := atoms_spec (ws := wsX10_joinWhatMustBeOne) B.pre
  have hown : s.vm.findClass RX10 = some m.cls := findClass_of_methodNamed B.named
  have hlocks := B.notSynchronized
  subst hsz
  have hD := hD0.self (sz := s.heap.size)
  exact wk_X10_joinWhatMustBeOne h_t B_t B_t_classes B_t_current t_toldCount t_classes_n t_classes_leader t_current_n t_current_cells B.exec B.bytes hml hown hts hK hE (fun q h => Or.inr h) (Nat.le_refl _) (Nat.le_refl _) (fun t_classes_leader H locs ls pc hP hD hS hk hd => W.vret B.exec B.bytes B.returns (fun t ht hW => ⟨⟨t_classes_leader, rfl, hk, by rw [ht]; exact hP, va_K.moved hW.alike hK, hD⟩, hS.F ht⟩) hS.2.2 hd) hP hD h

abbrev w_X10_part (Y : Nat → ClassId) (h_t : Nat) (B_t : Nat → Nat) (B_t_classes : Nat → Nat) (B_t_current : Nat → Nat) (B_t_draft : Nat → Nat) (B_t_twisting : Nat → Nat) (t_toldCount : Int32) (t_classes_n : Int32) (t_classes_leader : Nat → Int32) (t_classes_numbers : Nat → Int32) (t_current_n : Int32) (t_current_cells : Nat → Int32) (t_draft_n : Int32) (t_draft_cells : Nat → Int32) (t_twisting_modulus : Int32) (t_twisting_values : Nat → Int32) : va_W := [(h_t, .inr (9, [.ref (B_t 0), .ref (B_t 1), .ref (B_t 2), .ref (B_t 3), .ref (B_t 4), .ref (B_t 5), .ref (B_t 6), .ref (B_t 7), .ref (B_t 8), .ref (B_t 9), .ref (B_t 10), .ref (B_t 11), .ref (B_t 12), .ref (B_t 13), .int t_toldCount])), ((B_t 6), .inr (1, [.ref (B_t_classes 0), .ref (B_t_classes 1), .int t_classes_n])), ((B_t_classes 0), .inl (Y 0, 8, .inl t_classes_leader)), ((B_t_classes 1), .inl (Y 0, 8, .inl t_classes_numbers)), ((B_t 0), .inr (6, [.ref (B_t_current 0), .int t_current_n])), ((B_t_current 0), .inl (Y 0, 64, .inl t_current_cells)), ((B_t 1), .inr (6, [.ref (B_t_draft 0), .int t_draft_n])), ((B_t_draft 0), .inl (Y 0, 64, .inl t_draft_cells)), ((B_t 4), .inr (8, [.ref (B_t_twisting 0), .int t_twisting_modulus])), ((B_t_twisting 0), .inl (Y 0, 64, .inl t_twisting_values))]

set_option maxHeartbeats 4000000 in
set_option maxRecDepth 100000 in
theorem wk_X10_part {p : Program} {l : Launch} {e : Env} {R : Room} {s : State} {m : MethodId} {args : Array Value} {below : List Frame} {meth : Method} {c : Code} {Q : State → Prop} {G : va_G} {Y : Nat → ClassId} {tF : Nat} {A : Nat → Prop} (h_t : Nat) (B_t : Nat → Nat) (B_t_classes : Nat → Nat) (B_t_current : Nat → Nat) (B_t_draft : Nat → Nat) (B_t_twisting : Nat → Nat) (t_toldCount : Int32) (t_classes_n : Int32) (t_classes_leader : Nat → Int32) (t_classes_numbers : Nat → Int32) (t_current_n : Int32) (t_current_cells : Nat → Int32) (t_draft_n : Int32) (t_draft_cells : Nat → Int32) (t_twisting_modulus : Int32) (t_twisting_values : Nat → Int32) (x1 : Int32) (x2 : Int32) {K : Int32 → Int32 → (Nat → Int32) → (Nat → Int32) → Int32 → (Nat → Int32) → Int32 → (Nat → Int32) → (Nat → Int32) → Prop} (hx : p.tables.exec = Jvm.exec) (hb : c.code = cX10_part) (hml : c.maxLocals = 5) (hown : s.vm.findClass RX10 = some m.cls) (hts : ∀ w ∈ wsX10_part, w.before args s = true) (hK : va_K G vwCl (tyL Y) s) (hE : Ev A tF s) (hA : ∀ q, s.heap.size ≤ q → A q) (hRf : 4 ≤ R.frames) (hRl : 105 ≤ R.locals) (hret : ∀ (r : Int32) (t_classes_n : Int32) (t_classes_leader : Nat → Int32) (t_classes_numbers : Nat → Int32) (t_current_n : Int32) (t_current_cells : Nat → Int32) (t_draft_n : Int32) (t_draft_cells : Nat → Int32) (t_twisting_values : Nat → Int32) (H : Heap) (locs : List Loc) (ls : Array Slot) (pc : Nat), va_P G vwCl (w_X10_part Y h_t B_t B_t_classes B_t_current B_t_draft B_t_twisting t_toldCount t_classes_n t_classes_leader t_classes_numbers t_current_n t_current_cells t_draft_n t_draft_cells t_twisting_modulus t_twisting_values) H → va_D A (w_X10_part Y h_t B_t B_t_classes B_t_current B_t_draft B_t_twisting t_toldCount t_classes_n t_classes_leader t_classes_numbers t_current_n t_current_cells t_draft_n t_draft_cells t_twisting_modulus t_twisting_values) → va_S A s.heap H locs → K r t_classes_n t_classes_leader t_classes_numbers t_current_n t_current_cells t_draft_n t_draft_cells t_twisting_values → decode cX10_part pc = .ok (.ireturn, 1) → W p l e R s m args below meth c H locs 0 0 Q (F0 m pc ls [.int r])) (hP : va_P G vwCl (w_X10_part Y h_t B_t B_t_classes B_t_current B_t_draft B_t_twisting t_toldCount t_classes_n t_classes_leader t_classes_numbers t_current_n t_current_cells t_draft_n t_draft_cells t_twisting_modulus t_twisting_values) s.heap) (hD : va_D A (w_X10_part Y h_t B_t B_t_classes B_t_current B_t_draft B_t_twisting t_toldCount t_classes_n t_classes_leader t_classes_numbers t_current_n t_current_cells t_draft_n t_draft_cells t_twisting_modulus t_twisting_values)) (h : pX10_part t_classes_n t_classes_leader t_classes_numbers t_current_n t_current_cells t_draft_n t_draft_cells t_twisting_values x1 x2 K) : W p l e R s m args below meth c s.heap [] 0 0 Q (entryFrame m ([.ref h_t, .int x1, .int x2] : List Value).toArray 5) := by
  have inX10 : ∀ w ∈ u_ws RX10 TX10 15, w ∈ wsX10_part := by decide +kernel
  have inX7 : ∀ w ∈ u_ws RX7 TX7 2, w ∈ wsX10_part := by decide +kernel
  have hf14 := hts (.fieldLink RX10 14 "RackBench" "current" "LRackBench$Table;") (by decide +kernel)
  have hf18 := hts (.fieldLink RX10 18 "RackBench" "draft" "LRackBench$Table;") (by decide +kernel)
  have hf45 := hts (.fieldLink RX10 45 "RackBench" "classes" "LRackBench$Classes;") (by decide +kernel)
  have hl := lv_entry ([.ref h_t, .int x1, .int x2]) (n := 5) (Nat.le_of_ble_eq_true rfl)
  rw [lg_entry_eq]
  generalize (lg_sl ([.ref h_t, .int x1, .int x2]) ++ List.replicate (5 - (lg_sl ([.ref h_t, .int x1, .int x2])).length) Slot.unset).toArray = ls at hl ⊢
  have hl : lv_has ls 5 [(0, .ref h_t), (1, .int x1), (2, .int x2)] := hl
  generalize hH0 : s.heap = H at hP ⊢
  have hS : va_S A s.heap H [] := by rw [← hH0]; exact va_S.rf
  clear hH0
  generalize ([] : List Loc) = locs at hS ⊢
  refine lv_aload_n hx hb dX10_part_0 rfl (lv_at hl 0 rfl) ?_
  refine va_get (D := G) (ci := 9) (v := .ref (B_t 0)) (C := RX10) (T := TX10) (N := 15) hx hb hts inX10 hown hK hP 0 rfl rfl 0 (by decide) hf14 (fun _ h9 => h9) rfl dX10_part_1 ?_
  refine lv_iload_n hx hb dX10_part_4 rfl (lv_at hl 1 rfl) ?_
  refine mc_iV ⟨hx, hb, hml, hown, hts⟩ hK hE hA hP hD hS (c_X7_has l G Y tF H.size (B_t 0) B_t_current t_current_n x1 h) (cwV 1 hts gX10_part_X7_has rfl rfl rfl (by decide +kernel) ⟨Nat.le_trans (by decide) hRf, Nat.le_trans (by decide) hRl⟩) (fun u => (w_X10_part Y h_t B_t B_t_classes B_t_current B_t_draft B_t_twisting t_toldCount t_classes_n t_classes_leader t_classes_numbers t_current_n t_current_cells t_draft_n t_draft_cells t_twisting_modulus t_twisting_values)) [4] [0, 1, 2, 3, 5, 6, 7, 8, 9] [0, 1, 2, 3, 9, 4, 5, 6, 7, 8] rfl rfl rfl rfl (by decide) (fun _ => rfl) rfl 4 6 rfl rfl rfl rfl hl.1 rfl (Nat.le_of_ble_eq_true rfl) dX10_part_5 (fun r5 u H locs h hP hD hS => ?_)
  try dsimp only at h
  have hP : va_P G vwCl (w_X10_part Y h_t B_t B_t_classes B_t_current B_t_draft B_t_twisting t_toldCount t_classes_n t_classes_leader t_classes_numbers t_current_n t_current_cells t_draft_n t_draft_cells t_twisting_modulus t_twisting_values) H := hP
  have hD : va_D A (w_X10_part Y h_t B_t B_t_classes B_t_current B_t_draft B_t_twisting t_toldCount t_classes_n t_classes_leader t_classes_numbers t_current_n t_current_cells t_draft_n t_draft_cells t_twisting_modulus t_twisting_values) := hD
  obtain ⟨ht, hf⟩ := h
  refine lv_if_eq (tgt := 32) hx hb dX10_part_8 (by decide) (fun c9 => ?_) (fun c9 => ?_)
  · have h := ht c9
    refine lv_iconst (v := -1) hx hb dX10_part_32 (by decide) ?_
    exact hret (-1 : Int32) t_classes_n t_classes_leader t_classes_numbers t_current_n t_current_cells t_draft_n t_draft_cells t_twisting_values H locs ls _ hP hD hS h dX10_part_33
  · have h := hf c9
    refine lv_aload_n hx hb dX10_part_11 rfl (lv_at hl 0 rfl) ?_
    refine va_get (D := G) (ci := 9) (v := .ref (B_t 0)) (C := RX10) (T := TX10) (N := 15) hx hb hts inX10 hown hK hP 0 rfl rfl 0 (by decide) hf14 (fun _ h9 => h9) rfl dX10_part_12 ?_
    refine lv_iload_n hx hb dX10_part_15 rfl (lv_at hl 2 rfl) ?_
    refine mc_iV ⟨hx, hb, hml, hown, hts⟩ hK hE hA hP hD hS (c_X7_has l G Y tF H.size (B_t 0) B_t_current t_current_n x2 h) (cwV 1 hts gX10_part_X7_has rfl rfl rfl (by decide +kernel) ⟨Nat.le_trans (by decide) hRf, Nat.le_trans (by decide) hRl⟩) (fun u => (w_X10_part Y h_t B_t B_t_classes B_t_current B_t_draft B_t_twisting t_toldCount t_classes_n t_classes_leader t_classes_numbers t_current_n t_current_cells t_draft_n t_draft_cells t_twisting_modulus t_twisting_values)) [4] [0, 1, 2, 3, 5, 6, 7, 8, 9] [0, 1, 2, 3, 9, 4, 5, 6, 7, 8] rfl rfl rfl rfl (by decide) (fun _ => rfl) rfl 4 6 rfl rfl rfl rfl hl.1 rfl (Nat.le_of_ble_eq_true rfl) dX10_part_16 (fun r16 u H locs h hP hD hS => ?_)
    try dsimp only at h
    have hP : va_P G vwCl (w_X10_part Y h_t B_t B_t_classes B_t_current B_t_draft B_t_twisting t_toldCount t_classes_n t_classes_leader t_classes_numbers t_current_n t_current_cells t_draft_n t_draft_cells t_twisting_modulus t_twisting_values) H := hP
    have hD : va_D A (w_X10_part Y h_t B_t B_t_classes B_t_current B_t_draft B_t_twisting t_toldCount t_classes_n t_classes_leader t_classes_numbers t_current_n t_current_cells t_draft_n t_draft_cells t_twisting_modulus t_twisting_values) := hD
    obtain ⟨ht, hf⟩ := h
    refine lv_if_eq (tgt := 32) hx hb dX10_part_19 (by decide) (fun c9 => ?_) (fun c9 => ?_)
    · have h := ht c9
      refine lv_iconst (v := -1) hx hb dX10_part_32 (by decide) ?_
      exact hret (-1 : Int32) t_classes_n t_classes_leader t_classes_numbers t_current_n t_current_cells t_draft_n t_draft_cells t_twisting_values H locs ls _ hP hD hS h dX10_part_33
    · have h := hf c9
      refine lv_aload_n hx hb dX10_part_22 rfl (lv_at hl 0 rfl) ?_
      refine va_get (D := G) (ci := 9) (v := .ref (B_t 0)) (C := RX10) (T := TX10) (N := 15) hx hb hts inX10 hown hK hP 0 rfl rfl 0 (by decide) hf14 (fun _ h9 => h9) rfl dX10_part_23 ?_
      refine mc_iV ⟨hx, hb, hml, hown, hts⟩ hK hE hA hP hD hS (c_X7_isRack l G Y tF H.size (B_t 0) B_t_current t_current_n t_current_cells h) (cwV 0 hts gX10_part_X7_isRack rfl rfl rfl (by decide +kernel) ⟨Nat.le_trans (by decide) hRf, Nat.le_trans (by decide) hRl⟩) (fun u => (w_X10_part Y h_t B_t B_t_classes B_t_current B_t_draft B_t_twisting t_toldCount t_classes_n t_classes_leader t_classes_numbers t_current_n t_current_cells t_draft_n t_draft_cells t_twisting_modulus t_twisting_values)) [4, 5] [0, 1, 2, 3, 6, 7, 8, 9] [0, 1, 2, 3, 8, 9, 4, 5, 6, 7] rfl rfl rfl rfl (by decide) (fun _ => rfl) rfl 4 6 rfl rfl rfl rfl hl.1 rfl (Nat.le_of_ble_eq_true rfl) dX10_part_26 (fun r26 u H locs h hP hD hS => ?_)
      try dsimp only at h
      have hP : va_P G vwCl (w_X10_part Y h_t B_t B_t_classes B_t_current B_t_draft B_t_twisting t_toldCount t_classes_n t_classes_leader t_classes_numbers t_current_n t_current_cells t_draft_n t_draft_cells t_twisting_modulus t_twisting_values) H := hP
      have hD : va_D A (w_X10_part Y h_t B_t B_t_classes B_t_current B_t_draft B_t_twisting t_toldCount t_classes_n t_classes_leader t_classes_numbers t_current_n t_current_cells t_draft_n t_draft_cells t_twisting_modulus t_twisting_values) := hD
      obtain ⟨ht, hf⟩ := h
      refine lv_if_ne (tgt := 34) hx hb dX10_part_29 (by decide) (fun c9 => ?_) (fun c9 => ?_)
      · have h := ht c9
        refine lv_aload_n hx hb dX10_part_34 rfl (lv_at hl 0 rfl) ?_
        refine va_get (D := G) (ci := 9) (v := .ref (B_t 6)) (C := RX10) (T := TX10) (N := 15) hx hb hts inX10 hown hK hP 0 rfl rfl 6 (by decide) hf45 (fun _ h9 => h9) rfl dX10_part_35 ?_
        refine lv_aload_n hx hb dX10_part_38 rfl (lv_at hl 0 rfl) ?_
        refine va_get (D := G) (ci := 9) (v := .ref (B_t 0)) (C := RX10) (T := TX10) (N := 15) hx hb hts inX10 hown hK hP 0 rfl rfl 0 (by decide) hf14 (fun _ h9 => h9) rfl dX10_part_39 ?_
        refine va_getN (D := G) (ci := 6) (v := .int t_current_n) (C := RX7) (T := TX7) (N := 2) hx hb hts inX7 hown hK hP 4 rfl rfl 1 (by decide) (hE.nest args 0 _ rfl) (fun _ h9 => h9) rfl dX10_part_42 ?_
        refine mc_vV ⟨hx, hb, hml, hown, hts⟩ hK hE hA hP hD hS (c_X1_split l G Y tF H.size (B_t 6) B_t_classes t_classes_n t_classes_leader t_current_n h) (cwV 1 hts gX10_part_X1_split rfl rfl rfl (by decide +kernel) ⟨Nat.le_trans (by decide) hRf, Nat.le_trans (by decide) hRl⟩) (fun u => (w_X10_part Y h_t B_t B_t_classes B_t_current B_t_draft B_t_twisting t_toldCount u.1 u.2 t_classes_numbers t_current_n t_current_cells t_draft_n t_draft_cells t_twisting_modulus t_twisting_values)) [1, 2] [0, 3, 4, 5, 6, 7, 8, 9] [0, 8, 9, 1, 2, 3, 4, 5, 6, 7] rfl rfl rfl rfl (by decide) (fun _ => rfl) rfl 1 1 rfl rfl rfl rfl hl.1 rfl (Nat.le_of_ble_eq_true rfl) dX10_part_45 (fun u H locs h hP hD hS => ?_)
        obtain ⟨t_classes_n_45, t_classes_leader_45⟩ := u
        try dsimp only at h
        have hP : va_P G vwCl (w_X10_part Y h_t B_t B_t_classes B_t_current B_t_draft B_t_twisting t_toldCount t_classes_n_45 t_classes_leader_45 t_classes_numbers t_current_n t_current_cells t_draft_n t_draft_cells t_twisting_modulus t_twisting_values) H := hP
        have hD : va_D A (w_X10_part Y h_t B_t B_t_classes B_t_current B_t_draft B_t_twisting t_toldCount t_classes_n_45 t_classes_leader_45 t_classes_numbers t_current_n t_current_cells t_draft_n t_draft_cells t_twisting_modulus t_twisting_values) := hD
        refine lv_aload_n hx hb dX10_part_48 rfl (lv_at hl 0 rfl) ?_
        refine va_get (D := G) (ci := 9) (v := .ref (B_t 6)) (C := RX10) (T := TX10) (N := 15) hx hb hts inX10 hown hK hP 0 rfl rfl 6 (by decide) hf45 (fun _ h9 => h9) rfl dX10_part_49 ?_
        refine lv_iload_n hx hb dX10_part_52 rfl (lv_at hl 1 rfl) ?_
        refine lv_iload_n hx hb dX10_part_53 rfl (lv_at hl 2 rfl) ?_
        refine mc_iV ⟨hx, hb, hml, hown, hts⟩ hK hE hA hP hD hS (c_X1_join l G Y tF H.size (B_t 6) B_t_classes t_classes_n_45 t_classes_leader_45 x1 x2 h) (cwV 2 hts gX10_part_X1_join rfl rfl rfl (by decide +kernel) ⟨Nat.le_trans (by decide) hRf, Nat.le_trans (by decide) hRl⟩) (fun u => (w_X10_part Y h_t B_t B_t_classes B_t_current B_t_draft B_t_twisting t_toldCount t_classes_n_45 u t_classes_numbers t_current_n t_current_cells t_draft_n t_draft_cells t_twisting_modulus t_twisting_values)) [1, 2] [0, 3, 4, 5, 6, 7, 8, 9] [0, 8, 9, 1, 2, 3, 4, 5, 6, 7] rfl rfl rfl rfl (by decide) (fun _ => rfl) rfl 1 1 rfl rfl rfl rfl hl.1 rfl (Nat.le_of_ble_eq_true rfl) dX10_part_54 (fun r54 u H locs h hP hD hS => ?_)
        obtain ⟨t_classes_leader_54, rfl⟩ : ∃ z, z = u := ⟨_, rfl⟩
        try dsimp only at h
        have hP : va_P G vwCl (w_X10_part Y h_t B_t B_t_classes B_t_current B_t_draft B_t_twisting t_toldCount t_classes_n_45 t_classes_leader_54 t_classes_numbers t_current_n t_current_cells t_draft_n t_draft_cells t_twisting_modulus t_twisting_values) H := hP
        have hD : va_D A (w_X10_part Y h_t B_t B_t_classes B_t_current B_t_draft B_t_twisting t_toldCount t_classes_n_45 t_classes_leader_54 t_classes_numbers t_current_n t_current_cells t_draft_n t_draft_cells t_twisting_modulus t_twisting_values) := hD
        refine lv_pop hx hb dX10_part_57 rfl ?_
        refine lv_aload_n hx hb dX10_part_58 rfl (lv_at hl 0 rfl) ?_
        refine mc_vV ⟨hx, hb, hml, hown, hts⟩ hK hE hA hP hD hS (c_X10_joinWhatMustBeOne l G Y tF H.size h_t B_t B_t_classes B_t_current t_toldCount t_classes_n_45 t_classes_leader_54 t_current_n t_current_cells h) (cwV 0 hts gX10_part_X10_joinWhatMustBeOne rfl rfl rfl (by decide +kernel) ⟨Nat.le_trans (by decide) hRf, Nat.le_trans (by decide) hRl⟩) (fun u => (w_X10_part Y h_t B_t B_t_classes B_t_current B_t_draft B_t_twisting t_toldCount t_classes_n_45 u t_classes_numbers t_current_n t_current_cells t_draft_n t_draft_cells t_twisting_modulus t_twisting_values)) [0, 1, 2, 4, 5] [3, 6, 7, 8, 9] [5, 6, 7, 0, 8, 9, 1, 2, 3, 4] rfl rfl rfl rfl (by decide) (fun _ => rfl) rfl 0 9 rfl rfl rfl rfl hl.1 rfl (Nat.le_of_ble_eq_true rfl) dX10_part_59 (fun u H locs h hP hD hS => ?_)
        obtain ⟨t_classes_leader_59, rfl⟩ : ∃ z, z = u := ⟨_, rfl⟩
        try dsimp only at h
        have hP : va_P G vwCl (w_X10_part Y h_t B_t B_t_classes B_t_current B_t_draft B_t_twisting t_toldCount t_classes_n_45 t_classes_leader_59 t_classes_numbers t_current_n t_current_cells t_draft_n t_draft_cells t_twisting_modulus t_twisting_values) H := hP
        have hD : va_D A (w_X10_part Y h_t B_t B_t_classes B_t_current B_t_draft B_t_twisting t_toldCount t_classes_n_45 t_classes_leader_59 t_classes_numbers t_current_n t_current_cells t_draft_n t_draft_cells t_twisting_modulus t_twisting_values) := hD
        refine lv_aload_n hx hb dX10_part_62 rfl (lv_at hl 0 rfl) ?_
        refine va_get (D := G) (ci := 9) (v := .ref (B_t 1)) (C := RX10) (T := TX10) (N := 15) hx hb hts inX10 hown hK hP 0 rfl rfl 1 (by decide) hf18 (fun _ h9 => h9) rfl dX10_part_63 ?_
        refine lv_aload_n hx hb dX10_part_66 rfl (lv_at hl 0 rfl) ?_
        refine va_get (D := G) (ci := 9) (v := .ref (B_t 6)) (C := RX10) (T := TX10) (N := 15) hx hb hts inX10 hown hK hP 0 rfl rfl 6 (by decide) hf45 (fun _ h9 => h9) rfl dX10_part_67 ?_
        refine mc_iV ⟨hx, hb, hml, hown, hts⟩ hK hE hA hP hD hS (c_X1_number l G Y tF H.size (B_t 6) B_t_classes t_classes_n_45 t_classes_leader_59 t_classes_numbers h) (cwV 0 hts gX10_part_X1_number rfl rfl rfl (by decide +kernel) ⟨Nat.le_trans (by decide) hRf, Nat.le_trans (by decide) hRl⟩) (fun u => (w_X10_part Y h_t B_t B_t_classes B_t_current B_t_draft B_t_twisting t_toldCount t_classes_n_45 t_classes_leader_59 u t_current_n t_current_cells t_draft_n t_draft_cells t_twisting_modulus t_twisting_values)) [1, 2, 3] [0, 4, 5, 6, 7, 8, 9] [0, 7, 8, 9, 1, 2, 3, 4, 5, 6] rfl rfl rfl rfl (by decide) (fun _ => rfl) rfl 1 1 rfl rfl rfl rfl hl.1 rfl (Nat.le_of_ble_eq_true rfl) dX10_part_70 (fun r70 u H locs h hP hD hS => ?_)
        obtain ⟨t_classes_numbers_70, rfl⟩ : ∃ z, z = u := ⟨_, rfl⟩
        try dsimp only at h
        have hP : va_P G vwCl (w_X10_part Y h_t B_t B_t_classes B_t_current B_t_draft B_t_twisting t_toldCount t_classes_n_45 t_classes_leader_59 t_classes_numbers_70 t_current_n t_current_cells t_draft_n t_draft_cells t_twisting_modulus t_twisting_values) H := hP
        have hD : va_D A (w_X10_part Y h_t B_t B_t_classes B_t_current B_t_draft B_t_twisting t_toldCount t_classes_n_45 t_classes_leader_59 t_classes_numbers_70 t_current_n t_current_cells t_draft_n t_draft_cells t_twisting_modulus t_twisting_values) := hD
        refine va_putN (D := G) (ci := 6) (v := .int r70) (ty := .int) (C := RX7) (T := TX7) (N := 2) hx hb hts inX7 tyX7 tyX7_ok nmX7 hown hK hP hD hS 6 rfl rfl 1 (by decide) (hE.nest args 0 _ rfl) (fun _ h9 => h9) rfl (by decide +kernel) rfl rfl (Nat.le_of_ble_eq_true rfl) dX10_part_73 (fun H locs hP hD hS => ?_)
        have hP : va_P G vwCl (w_X10_part Y h_t B_t B_t_classes B_t_current B_t_draft B_t_twisting t_toldCount t_classes_n_45 t_classes_leader_59 t_classes_numbers_70 t_current_n t_current_cells r70 t_draft_cells t_twisting_modulus t_twisting_values) H := hP
        have hD : va_D A (w_X10_part Y h_t B_t B_t_classes B_t_current B_t_draft B_t_twisting t_toldCount t_classes_n_45 t_classes_leader_59 t_classes_numbers_70 t_current_n t_current_cells r70 t_draft_cells t_twisting_modulus t_twisting_values) := hD
        refine lv_iconst (v := 0) hx hb dX10_part_76 (by decide) ?_
        refine lv_istore_n (lv' := [(3, .int (0 : Int32)), (0, .ref h_t), (1, .int x1), (2, .int x2)]) hx hb dX10_part_77 rfl hl (by decide) rfl (fun ls hl => ?_)
        obtain ⟨I78, m78, hI78, hB78⟩ := h
        have L78 : ∀ (t_classes_n : Int32) (t_classes_leader : Nat → Int32) (t_classes_numbers : Nat → Int32) (t_current_n : Int32) (t_current_cells : Nat → Int32) (t_draft_n : Int32) (t_twisting_values : Nat → Int32) (I78 : Int32 → (Nat → Int32) → Prop) (m78 : Int32 → (Nat → Int32) → Nat), (∀ (x3 : Int32) (t_draft_cells : Nat → Int32), I78 x3 t_draft_cells → pX10_part_78 K t_classes_n t_classes_leader t_classes_numbers t_current_n t_current_cells t_draft_n t_twisting_values x3 t_draft_cells (fun x3' t_draft_cells' => I78 x3' t_draft_cells' ∧ m78 x3' t_draft_cells' < m78 x3 t_draft_cells)) → ∀ (n : Nat) (x3 : Int32) (t_draft_cells : Nat → Int32) (H : Heap) (locs : List Loc) (ls : Array Slot), I78 x3 t_draft_cells → m78 x3 t_draft_cells < n → va_P G vwCl (w_X10_part Y h_t B_t B_t_classes B_t_current B_t_draft B_t_twisting t_toldCount t_classes_n t_classes_leader t_classes_numbers t_current_n t_current_cells t_draft_n t_draft_cells t_twisting_modulus t_twisting_values) H → va_D A (w_X10_part Y h_t B_t B_t_classes B_t_current B_t_draft B_t_twisting t_toldCount t_classes_n t_classes_leader t_classes_numbers t_current_n t_current_cells t_draft_n t_draft_cells t_twisting_modulus t_twisting_values) → va_S A s.heap H locs → lv_has ls 5 [(0, .ref h_t), (3, .int x3)] → W p l e R s m args below meth c H locs 0 0 Q (F0 m 78 ls []) := by
          intro t_classes_n t_classes_leader t_classes_numbers t_current_n t_current_cells t_draft_n t_twisting_values I78 m78 hB78 n
          induction n with
          | zero => intro x3 t_draft_cells H locs ls _ hm; exact absurd hm (Nat.not_lt_zero _)
          | succ n ih =>
            intro x3 t_draft_cells H locs ls hI hm hP hD hS hl
            obtain ⟨R78, h, rec78⟩ : ∃ R78 : Int32 → (Nat → Int32) → Prop, pX10_part_78 K t_classes_n t_classes_leader t_classes_numbers t_current_n t_current_cells t_draft_n t_twisting_values x3 t_draft_cells R78 ∧ ∀ (x3 : Int32) (t_draft_cells : Nat → Int32) (H : Heap) (locs : List Loc) (ls : Array Slot), R78 x3 t_draft_cells → va_P G vwCl (w_X10_part Y h_t B_t B_t_classes B_t_current B_t_draft B_t_twisting t_toldCount t_classes_n t_classes_leader t_classes_numbers t_current_n t_current_cells t_draft_n t_draft_cells t_twisting_modulus t_twisting_values) H → va_D A (w_X10_part Y h_t B_t B_t_classes B_t_current B_t_draft B_t_twisting t_toldCount t_classes_n t_classes_leader t_classes_numbers t_current_n t_current_cells t_draft_n t_draft_cells t_twisting_modulus t_twisting_values) → va_S A s.heap H locs → lv_has ls 5 [(0, .ref h_t), (3, .int x3)] → W p l e R s m args below meth c H locs 0 0 Q (F0 m 78 ls []) := ⟨_, hB78 x3 t_draft_cells hI, fun x3 t_draft_cells H locs ls hh hP hD hS hl => ih x3 t_draft_cells H locs ls hh.1 (Nat.lt_of_lt_of_le hh.2 (Nat.le_of_lt_succ hm)) hP hD hS hl⟩
            refine lv_iload_n hx hb dX10_part_78 rfl (lv_at hl 1 rfl) ?_
            refine lv_aload_n hx hb dX10_part_79 rfl (lv_at hl 0 rfl) ?_
            refine va_get (D := G) (ci := 9) (v := .ref (B_t 0)) (C := RX10) (T := TX10) (N := 15) hx hb hts inX10 hown hK hP 0 rfl rfl 0 (by decide) hf14 (fun _ h9 => h9) rfl dX10_part_80 ?_
            refine va_getN (D := G) (ci := 6) (v := .int t_current_n) (C := RX7) (T := TX7) (N := 2) hx hb hts inX7 hown hK hP 4 rfl rfl 1 (by decide) (hE.nest args 0 _ rfl) (fun _ h9 => h9) rfl dX10_part_83 ?_
            obtain ⟨ht, hf⟩ := h
            refine lv_icmp_ge (tgt := 157) hx hb dX10_part_86 (by decide) (fun c9 => ?_) (fun c9 => ?_)
            · have h := ht c9
              refine lv_aload_n hx hb dX10_part_157 rfl (lv_at hl 0 rfl) ?_
              refine mc_iV ⟨hx, hb, hml, hown, hts⟩ hK hE hA hP hD hS (c_X10_adoptDraft l G Y tF H.size h_t B_t B_t_current B_t_draft B_t_twisting t_toldCount t_current_n t_current_cells t_draft_n t_draft_cells t_twisting_modulus t_twisting_values h) (cwV 0 hts gX10_part_X10_adoptDraft rfl rfl rfl (by decide +kernel) ⟨Nat.le_trans (by decide) hRf, Nat.le_trans (by decide) hRl⟩) (fun u => (w_X10_part Y h_t B_t B_t_classes B_t_current B_t_draft B_t_twisting t_toldCount t_classes_n t_classes_leader t_classes_numbers u.1 u.2.1 t_draft_n t_draft_cells t_twisting_modulus u.2.2)) [0, 4, 5, 6, 7, 8, 9] [1, 2, 3] [3, 0, 1, 2, 4, 5, 6, 7, 8, 9] rfl rfl rfl rfl (by decide) (fun _ => rfl) rfl 0 9 rfl rfl rfl rfl hl.1 rfl (Nat.le_of_ble_eq_true rfl) dX10_part_158 (fun r158 u H locs h hP hD hS => ?_)
              obtain ⟨t_current_n_158, t_current_cells_158, t_twisting_values_158⟩ := u
              try dsimp only at h
              have hP : va_P G vwCl (w_X10_part Y h_t B_t B_t_classes B_t_current B_t_draft B_t_twisting t_toldCount t_classes_n t_classes_leader t_classes_numbers t_current_n_158 t_current_cells_158 t_draft_n t_draft_cells t_twisting_modulus t_twisting_values_158) H := hP
              have hD : va_D A (w_X10_part Y h_t B_t B_t_classes B_t_current B_t_draft B_t_twisting t_toldCount t_classes_n t_classes_leader t_classes_numbers t_current_n_158 t_current_cells_158 t_draft_n t_draft_cells t_twisting_modulus t_twisting_values_158) := hD
              exact hret r158 t_classes_n t_classes_leader t_classes_numbers t_current_n_158 t_current_cells_158 t_draft_n t_draft_cells t_twisting_values_158 H locs ls _ hP hD hS h dX10_part_161
            · have h := hf c9
              refine lv_iconst (v := 0) hx hb dX10_part_89 (by decide) ?_
              refine lv_istore (lv' := [(4, .int (0 : Int32)), (0, .ref h_t), (3, .int x3)]) hx hb dX10_part_90 hl (by decide) rfl (fun ls hl => ?_)
              obtain ⟨I92, m92, hI92, hB92⟩ := h
              have L92 : ∀ (x3 : Int32) (I92 : Int32 → (Nat → Int32) → Prop) (m92 : Int32 → (Nat → Int32) → Nat), (∀ (x4 : Int32) (t_draft_cells : Nat → Int32), I92 x4 t_draft_cells → pX10_part_92 R78 K t_classes_n t_classes_leader t_classes_numbers t_current_n t_current_cells t_draft_n t_twisting_values x3 x4 t_draft_cells (fun x4' t_draft_cells' => I92 x4' t_draft_cells' ∧ m92 x4' t_draft_cells' < m92 x4 t_draft_cells)) → ∀ (n : Nat) (x4 : Int32) (t_draft_cells : Nat → Int32) (H : Heap) (locs : List Loc) (ls : Array Slot), I92 x4 t_draft_cells → m92 x4 t_draft_cells < n → va_P G vwCl (w_X10_part Y h_t B_t B_t_classes B_t_current B_t_draft B_t_twisting t_toldCount t_classes_n t_classes_leader t_classes_numbers t_current_n t_current_cells t_draft_n t_draft_cells t_twisting_modulus t_twisting_values) H → va_D A (w_X10_part Y h_t B_t B_t_classes B_t_current B_t_draft B_t_twisting t_toldCount t_classes_n t_classes_leader t_classes_numbers t_current_n t_current_cells t_draft_n t_draft_cells t_twisting_modulus t_twisting_values) → va_S A s.heap H locs → lv_has ls 5 [(0, .ref h_t), (3, .int x3), (4, .int x4)] → W p l e R s m args below meth c H locs 0 0 Q (F0 m 92 ls []) := by
                intro x3 I92 m92 hB92 n
                induction n with
                | zero => intro x4 t_draft_cells H locs ls _ hm; exact absurd hm (Nat.not_lt_zero _)
                | succ n ih =>
                  intro x4 t_draft_cells H locs ls hI hm hP hD hS hl
                  obtain ⟨R92, h, rec92⟩ : ∃ R92 : Int32 → (Nat → Int32) → Prop, pX10_part_92 R78 K t_classes_n t_classes_leader t_classes_numbers t_current_n t_current_cells t_draft_n t_twisting_values x3 x4 t_draft_cells R92 ∧ ∀ (x4 : Int32) (t_draft_cells : Nat → Int32) (H : Heap) (locs : List Loc) (ls : Array Slot), R92 x4 t_draft_cells → va_P G vwCl (w_X10_part Y h_t B_t B_t_classes B_t_current B_t_draft B_t_twisting t_toldCount t_classes_n t_classes_leader t_classes_numbers t_current_n t_current_cells t_draft_n t_draft_cells t_twisting_modulus t_twisting_values) H → va_D A (w_X10_part Y h_t B_t B_t_classes B_t_current B_t_draft B_t_twisting t_toldCount t_classes_n t_classes_leader t_classes_numbers t_current_n t_current_cells t_draft_n t_draft_cells t_twisting_modulus t_twisting_values) → va_S A s.heap H locs → lv_has ls 5 [(0, .ref h_t), (3, .int x3), (4, .int x4)] → W p l e R s m args below meth c H locs 0 0 Q (F0 m 92 ls []) := ⟨_, hB92 x4 t_draft_cells hI, fun x4 t_draft_cells H locs ls hh hP hD hS hl => ih x4 t_draft_cells H locs ls hh.1 (Nat.lt_of_lt_of_le hh.2 (Nat.le_of_lt_succ hm)) hP hD hS hl⟩
                  refine lv_iload hx hb dX10_part_92 (lv_at hl 2 rfl) ?_
                  refine lv_aload_n hx hb dX10_part_94 rfl (lv_at hl 0 rfl) ?_
                  refine va_get (D := G) (ci := 9) (v := .ref (B_t 0)) (C := RX10) (T := TX10) (N := 15) hx hb hts inX10 hown hK hP 0 rfl rfl 0 (by decide) hf14 (fun _ h9 => h9) rfl dX10_part_95 ?_
                  refine va_getN (D := G) (ci := 6) (v := .int t_current_n) (C := RX7) (T := TX7) (N := 2) hx hb hts inX7 hown hK hP 4 rfl rfl 1 (by decide) (hE.nest args 0 _ rfl) (fun _ h9 => h9) rfl dX10_part_98 ?_
                  obtain ⟨ht, hf⟩ := h
                  refine lv_icmp_ge (tgt := 151) hx hb dX10_part_101 (by decide) (fun c9 => ?_) (fun c9 => ?_)
                  · have h := ht c9
                    refine lv_iinc (v := (x3 + 1)) (lv' := [(3, .int (x3 + 1)), (0, .ref h_t), (4, .int x4)]) hx hb dX10_part_151 hl (k := 1) rfl rfl (by decide) rfl (fun ls hl => ?_)
                    refine lv_goto (tgt := 78) hx hb dX10_part_154 (by decide) ?_
                    exact rec78 (x3 + 1) t_draft_cells H locs ls h hP hD hS (lv_sub hl [1, 0] rfl)
                  · have h := hf c9
                    refine lv_aload_n hx hb dX10_part_104 rfl (lv_at hl 0 rfl) ?_
                    refine va_get (D := G) (ci := 9) (v := .ref (B_t 1)) (C := RX10) (T := TX10) (N := 15) hx hb hts inX10 hown hK hP 0 rfl rfl 1 (by decide) hf18 (fun _ h9 => h9) rfl dX10_part_105 ?_
                    refine lv_aload_n hx hb dX10_part_108 rfl (lv_at hl 0 rfl) ?_
                    refine va_get (D := G) (ci := 9) (v := .ref (B_t 6)) (C := RX10) (T := TX10) (N := 15) hx hb hts inX10 hown hK hP 0 rfl rfl 6 (by decide) hf45 (fun _ h9 => h9) rfl dX10_part_109 ?_
                    refine lv_iload_n hx hb dX10_part_112 rfl (lv_at hl 1 rfl) ?_
                    refine mc_iV ⟨hx, hb, hml, hown, hts⟩ hK hE hA hP hD hS (c_X1_numberOf l G Y tF H.size (B_t 6) B_t_classes t_classes_n t_classes_numbers x3 h) (cwV 1 hts gX10_part_X1_numberOf rfl rfl rfl (by decide +kernel) ⟨Nat.le_trans (by decide) hRf, Nat.le_trans (by decide) hRl⟩) (fun u => (w_X10_part Y h_t B_t B_t_classes B_t_current B_t_draft B_t_twisting t_toldCount t_classes_n t_classes_leader t_classes_numbers t_current_n t_current_cells t_draft_n t_draft_cells t_twisting_modulus t_twisting_values)) [1, 3] [0, 2, 4, 5, 6, 7, 8, 9] [0, 8, 1, 9, 2, 3, 4, 5, 6, 7] rfl rfl rfl rfl (by decide) (fun _ => rfl) rfl 1 1 rfl rfl rfl rfl hl.1 rfl (Nat.le_of_ble_eq_true rfl) dX10_part_113 (fun r113 u H locs h hP hD hS => ?_)
                    try dsimp only at h
                    have hP : va_P G vwCl (w_X10_part Y h_t B_t B_t_classes B_t_current B_t_draft B_t_twisting t_toldCount t_classes_n t_classes_leader t_classes_numbers t_current_n t_current_cells t_draft_n t_draft_cells t_twisting_modulus t_twisting_values) H := hP
                    have hD : va_D A (w_X10_part Y h_t B_t B_t_classes B_t_current B_t_draft B_t_twisting t_toldCount t_classes_n t_classes_leader t_classes_numbers t_current_n t_current_cells t_draft_n t_draft_cells t_twisting_modulus t_twisting_values) := hD
                    refine lv_aload_n hx hb dX10_part_116 rfl (lv_at hl 0 rfl) ?_
                    refine va_get (D := G) (ci := 9) (v := .ref (B_t 6)) (C := RX10) (T := TX10) (N := 15) hx hb hts inX10 hown hK hP 0 rfl rfl 6 (by decide) hf45 (fun _ h9 => h9) rfl dX10_part_117 ?_
                    refine lv_iload hx hb dX10_part_120 (lv_at hl 2 rfl) ?_
                    refine mc_iV ⟨hx, hb, hml, hown, hts⟩ hK hE hA hP hD hS (c_X1_numberOf l G Y tF H.size (B_t 6) B_t_classes t_classes_n t_classes_numbers x4 h) (cwV 1 hts gX10_part_X1_numberOf rfl rfl rfl (by decide +kernel) ⟨Nat.le_trans (by decide) hRf, Nat.le_trans (by decide) hRl⟩) (fun u => (w_X10_part Y h_t B_t B_t_classes B_t_current B_t_draft B_t_twisting t_toldCount t_classes_n t_classes_leader t_classes_numbers t_current_n t_current_cells t_draft_n t_draft_cells t_twisting_modulus t_twisting_values)) [1, 3] [0, 2, 4, 5, 6, 7, 8, 9] [0, 8, 1, 9, 2, 3, 4, 5, 6, 7] rfl rfl rfl rfl (by decide) (fun _ => rfl) rfl 1 1 rfl rfl rfl rfl hl.1 rfl (Nat.le_of_ble_eq_true rfl) dX10_part_122 (fun r122 u H locs h hP hD hS => ?_)
                    try dsimp only at h
                    have hP : va_P G vwCl (w_X10_part Y h_t B_t B_t_classes B_t_current B_t_draft B_t_twisting t_toldCount t_classes_n t_classes_leader t_classes_numbers t_current_n t_current_cells t_draft_n t_draft_cells t_twisting_modulus t_twisting_values) H := hP
                    have hD : va_D A (w_X10_part Y h_t B_t B_t_classes B_t_current B_t_draft B_t_twisting t_toldCount t_classes_n t_classes_leader t_classes_numbers t_current_n t_current_cells t_draft_n t_draft_cells t_twisting_modulus t_twisting_values) := hD
                    refine lv_aload_n hx hb dX10_part_125 rfl (lv_at hl 0 rfl) ?_
                    refine va_get (D := G) (ci := 9) (v := .ref (B_t 6)) (C := RX10) (T := TX10) (N := 15) hx hb hts inX10 hown hK hP 0 rfl rfl 6 (by decide) hf45 (fun _ h9 => h9) rfl dX10_part_126 ?_
                    refine lv_aload_n hx hb dX10_part_129 rfl (lv_at hl 0 rfl) ?_
                    refine va_get (D := G) (ci := 9) (v := .ref (B_t 0)) (C := RX10) (T := TX10) (N := 15) hx hb hts inX10 hown hK hP 0 rfl rfl 0 (by decide) hf14 (fun _ h9 => h9) rfl dX10_part_130 ?_
                    refine lv_iload_n hx hb dX10_part_133 rfl (lv_at hl 1 rfl) ?_
                    refine lv_iload hx hb dX10_part_134 (lv_at hl 2 rfl) ?_
                    refine mc_iV ⟨hx, hb, hml, hown, hts⟩ hK hE hA hP hD hS (c_X7_turned l G Y tF H.size (B_t 0) B_t_current t_current_n t_current_cells x3 x4 h) (cwV 2 hts gX10_part_X7_turned rfl rfl rfl (by decide +kernel) ⟨Nat.le_trans (by decide) hRf, Nat.le_trans (by decide) hRl⟩) (fun u => (w_X10_part Y h_t B_t B_t_classes B_t_current B_t_draft B_t_twisting t_toldCount t_classes_n t_classes_leader t_classes_numbers t_current_n t_current_cells t_draft_n t_draft_cells t_twisting_modulus t_twisting_values)) [4, 5] [0, 1, 2, 3, 6, 7, 8, 9] [0, 1, 2, 3, 8, 9, 4, 5, 6, 7] rfl rfl rfl rfl (by decide) (fun _ => rfl) rfl 4 6 rfl rfl rfl rfl hl.1 rfl (Nat.le_of_ble_eq_true rfl) dX10_part_136 (fun r136 u H locs h hP hD hS => ?_)
                    try dsimp only at h
                    have hP : va_P G vwCl (w_X10_part Y h_t B_t B_t_classes B_t_current B_t_draft B_t_twisting t_toldCount t_classes_n t_classes_leader t_classes_numbers t_current_n t_current_cells t_draft_n t_draft_cells t_twisting_modulus t_twisting_values) H := hP
                    have hD : va_D A (w_X10_part Y h_t B_t B_t_classes B_t_current B_t_draft B_t_twisting t_toldCount t_classes_n t_classes_leader t_classes_numbers t_current_n t_current_cells t_draft_n t_draft_cells t_twisting_modulus t_twisting_values) := hD
                    refine mc_iV ⟨hx, hb, hml, hown, hts⟩ hK hE hA hP hD hS (c_X1_numberOf l G Y tF H.size (B_t 6) B_t_classes t_classes_n t_classes_numbers r136 h) (cwV 1 hts gX10_part_X1_numberOf rfl rfl rfl (by decide +kernel) ⟨Nat.le_trans (by decide) hRf, Nat.le_trans (by decide) hRl⟩) (fun u => (w_X10_part Y h_t B_t B_t_classes B_t_current B_t_draft B_t_twisting t_toldCount t_classes_n t_classes_leader t_classes_numbers t_current_n t_current_cells t_draft_n t_draft_cells t_twisting_modulus t_twisting_values)) [1, 3] [0, 2, 4, 5, 6, 7, 8, 9] [0, 8, 1, 9, 2, 3, 4, 5, 6, 7] rfl rfl rfl rfl (by decide) (fun _ => rfl) rfl 1 1 rfl rfl rfl rfl hl.1 rfl (Nat.le_of_ble_eq_true rfl) dX10_part_139 (fun r139 u H locs h hP hD hS => ?_)
                    try dsimp only at h
                    have hP : va_P G vwCl (w_X10_part Y h_t B_t B_t_classes B_t_current B_t_draft B_t_twisting t_toldCount t_classes_n t_classes_leader t_classes_numbers t_current_n t_current_cells t_draft_n t_draft_cells t_twisting_modulus t_twisting_values) H := hP
                    have hD : va_D A (w_X10_part Y h_t B_t B_t_classes B_t_current B_t_draft B_t_twisting t_toldCount t_classes_n t_classes_leader t_classes_numbers t_current_n t_current_cells t_draft_n t_draft_cells t_twisting_modulus t_twisting_values) := hD
                    refine mc_vV ⟨hx, hb, hml, hown, hts⟩ hK hE hA hP hD hS (c_X7_put l G Y tF H.size (B_t 1) B_t_draft t_draft_n t_draft_cells r113 r122 r139 h) (cwV 3 hts gX10_part_X7_put rfl rfl rfl (by decide +kernel) ⟨Nat.le_trans (by decide) hRf, Nat.le_trans (by decide) hRl⟩) (fun u => (w_X10_part Y h_t B_t B_t_classes B_t_current B_t_draft B_t_twisting t_toldCount t_classes_n t_classes_leader t_classes_numbers t_current_n t_current_cells t_draft_n u t_twisting_modulus t_twisting_values)) [6, 7] [0, 1, 2, 3, 4, 5, 8, 9] [0, 1, 2, 3, 4, 5, 8, 9, 6, 7] rfl rfl rfl rfl (by decide) (fun _ => rfl) rfl 6 6 rfl rfl rfl rfl hl.1 rfl (Nat.le_of_ble_eq_true rfl) dX10_part_142 (fun u H locs h hP hD hS => ?_)
                    obtain ⟨t_draft_cells_142, rfl⟩ : ∃ z, z = u := ⟨_, rfl⟩
                    try dsimp only at h
                    have hP : va_P G vwCl (w_X10_part Y h_t B_t B_t_classes B_t_current B_t_draft B_t_twisting t_toldCount t_classes_n t_classes_leader t_classes_numbers t_current_n t_current_cells t_draft_n t_draft_cells_142 t_twisting_modulus t_twisting_values) H := hP
                    have hD : va_D A (w_X10_part Y h_t B_t B_t_classes B_t_current B_t_draft B_t_twisting t_toldCount t_classes_n t_classes_leader t_classes_numbers t_current_n t_current_cells t_draft_n t_draft_cells_142 t_twisting_modulus t_twisting_values) := hD
                    refine lv_iinc (v := (x4 + 1)) (lv' := [(4, .int (x4 + 1)), (0, .ref h_t), (3, .int x3)]) hx hb dX10_part_145 hl (k := 2) rfl rfl (by decide) rfl (fun ls hl => ?_)
                    refine lv_goto (tgt := 92) hx hb dX10_part_148 (by decide) ?_
                    exact rec92 (x4 + 1) t_draft_cells_142 H locs ls h hP hD hS (lv_sub hl [1, 2, 0] rfl)
              exact L92 x3 I92 m92 hB92 _ (0 : Int32) t_draft_cells H locs ls hI92 (Nat.lt_succ_self _) hP hD hS (lv_sub hl [1, 2, 0] rfl)
        exact L78 t_classes_n_45 t_classes_leader_59 t_classes_numbers_70 t_current_n t_current_cells r70 t_twisting_values I78 m78 hB78 _ (0 : Int32) t_draft_cells H locs ls hI78 (Nat.lt_succ_self _) hP hD hS (lv_sub hl [1, 0] rfl)
      · have h := hf c9
        refine lv_iconst (v := -1) hx hb dX10_part_32 (by decide) ?_
        exact hret (-1 : Int32) t_classes_n t_classes_leader t_classes_numbers t_current_n t_current_cells t_draft_n t_draft_cells t_twisting_values H locs ls _ hP hD hS h dX10_part_33

set_option maxHeartbeats 4000000 in
set_option maxRecDepth 100000 in
theorem c_X10_part (l : Launch) (G : va_G) (Y : Nat → ClassId) (tF sz : Nat) (h_t : Nat) (B_t : Nat → Nat) (B_t_classes : Nat → Nat) (B_t_current : Nat → Nat) (B_t_draft : Nat → Nat) (B_t_twisting : Nat → Nat) (t_toldCount : Int32) (t_classes_n : Int32) (t_classes_leader : Nat → Int32) (t_classes_numbers : Nat → Int32) (t_current_n : Int32) (t_current_cells : Nat → Int32) (t_draft_n : Int32) (t_draft_cells : Nat → Int32) (t_twisting_modulus : Int32) (t_twisting_values : Nat → Int32) (x1 : Int32) (x2 : Int32) {K : Int32 → Int32 → (Nat → Int32) → (Nat → Int32) → Int32 → (Nat → Int32) → Int32 → (Nat → Int32) → (Nat → Int32) → Prop} (h : pX10_part t_classes_n t_classes_leader t_classes_numbers t_current_n t_current_cells t_draft_n t_draft_cells t_twisting_values x1 x2 K) : Met l yX10_part wsX10_part ({ frames := 4, cells := 0, slots := 0, locals := 105 }) (PcM G Y tF sz (w_X10_part Y h_t B_t B_t_classes B_t_current B_t_draft B_t_twisting t_toldCount t_classes_n t_classes_leader t_classes_numbers t_current_n t_current_cells t_draft_n t_draft_cells t_twisting_modulus t_twisting_values) [.ref h_t, .int x1, .int x2]) (va_Qi (fun (r : Int32) (u : Int32 × (Nat → Int32) × (Nat → Int32) × Int32 × (Nat → Int32) × Int32 × (Nat → Int32) × (Nat → Int32)) => K r u.1 u.2.1 u.2.2.1 u.2.2.2.1 u.2.2.2.2.1 u.2.2.2.2.2.1 u.2.2.2.2.2.2.1 u.2.2.2.2.2.2.2) (fun u t => BM G Y (va_A (w_X10_part Y h_t B_t B_t_classes B_t_current B_t_draft B_t_twisting t_toldCount t_classes_n t_classes_leader t_classes_numbers t_current_n t_current_cells t_draft_n t_draft_cells t_twisting_modulus t_twisting_values) sz) (w_X10_part Y h_t B_t B_t_classes B_t_current B_t_draft B_t_twisting t_toldCount u.1 u.2.1 u.2.2.1 u.2.2.2.1 u.2.2.2.2.1 u.2.2.2.2.2.1 u.2.2.2.2.2.2.1 t_twisting_modulus u.2.2.2.2.2.2.2) t) (va_A (w_X10_part Y h_t B_t B_t_classes B_t_current B_t_draft B_t_twisting t_toldCount t_classes_n t_classes_leader t_classes_numbers t_current_n t_current_cells t_draft_n t_draft_cells t_twisting_modulus t_twisting_values) sz)) 0 0 (va_A (w_X10_part Y h_t B_t B_t_classes B_t_current B_t_draft B_t_twisting t_toldCount t_classes_n t_classes_leader t_classes_numbers t_current_n t_current_cells t_draft_n t_draft_cells t_twisting_modulus t_twisting_values) sz) := by
  refine Met.ofW (cc := cX10_part) (maxL := 5) (ret := (some .int)) (by decide +kernel) rfl ?_
  intro p e s m args below meth c s₁ B hml hv
  obtain ⟨rfl, hsz, hP, hK, hD0, hE⟩ := hv
  have hts := atoms_spec (ws := wsX10_part) B.pre
  have hown : s.vm.findClass RX10 = some m.cls := findClass_of_methodNamed B.named
  have hlocks := B.notSynchronized
  subst hsz
  have hD := hD0.self (sz := s.heap.size)
  exact wk_X10_part h_t B_t B_t_classes B_t_current B_t_draft B_t_twisting t_toldCount t_classes_n t_classes_leader t_classes_numbers t_current_n t_current_cells t_draft_n t_draft_cells t_twisting_modulus t_twisting_values x1 x2 B.exec B.bytes hml hown hts hK hE (fun q h => Or.inr h) (Nat.le_refl _) (Nat.le_refl _) (fun r t_classes_n t_classes_leader t_classes_numbers t_current_n t_current_cells t_draft_n t_draft_cells t_twisting_values H locs ls pc hP hD hS hk hd => W.iret (v := r) B.exec B.bytes B.returns (fun t ht hW => ⟨⟨r, (t_classes_n, t_classes_leader, t_classes_numbers, t_current_n, t_current_cells, t_draft_n, t_draft_cells, t_twisting_values), rfl, hk, by rw [ht]; exact hP, va_K.moved hW.alike hK, hD⟩, hS.F ht⟩) hS.2.2 hd) hP hD h

abbrev w_X10_closedSet (Y : Nat → ClassId) (h_t : Nat) (B_t : Nat → Nat) (B_t_current : Nat → Nat) (t_toldCount : Int32) (t_current_n : Int32) (t_current_cells : Nat → Int32) : va_W := [(h_t, .inr (9, [.ref (B_t 0), .ref (B_t 1), .ref (B_t 2), .ref (B_t 3), .ref (B_t 4), .ref (B_t 5), .ref (B_t 6), .ref (B_t 7), .ref (B_t 8), .ref (B_t 9), .ref (B_t 10), .ref (B_t 11), .ref (B_t 12), .ref (B_t 13), .int t_toldCount])), ((B_t 0), .inr (6, [.ref (B_t_current 0), .int t_current_n])), ((B_t_current 0), .inl (Y 0, 64, .inl t_current_cells))]

set_option maxHeartbeats 4000000 in
set_option maxRecDepth 100000 in
theorem wk_X10_closedSet {p : Program} {l : Launch} {e : Env} {R : Room} {s : State} {m : MethodId} {args : Array Value} {below : List Frame} {meth : Method} {c : Code} {Q : State → Prop} {G : va_G} {Y : Nat → ClassId} {tF : Nat} {A : Nat → Prop} (h_t : Nat) (B_t : Nat → Nat) (B_t_current : Nat → Nat) (t_toldCount : Int32) (t_current_n : Int32) (t_current_cells : Nat → Int32) (x1 : Int32) {K : Int32 → Prop} (hx : p.tables.exec = Jvm.exec) (hb : c.code = cX10_closedSet) (hml : c.maxLocals = 7) (hown : s.vm.findClass RX10 = some m.cls) (hts : ∀ w ∈ wsX10_closedSet, w.before args s = true) (hK : va_K G vwCl (tyL Y) s) (hE : Ev A tF s) (hA : ∀ q, s.heap.size ≤ q → A q) (hRf : 1 ≤ R.frames) (hRl : 22 ≤ R.locals) (hret : ∀ (r : Int32)  (H : Heap) (locs : List Loc) (ls : Array Slot) (pc : Nat), va_P G vwCl (w_X10_closedSet Y h_t B_t B_t_current t_toldCount t_current_n t_current_cells) H → va_D A (w_X10_closedSet Y h_t B_t B_t_current t_toldCount t_current_n t_current_cells) → va_S A s.heap H locs → K r → decode cX10_closedSet pc = .ok (.ireturn, 1) → W p l e R s m args below meth c H locs 0 0 Q (F0 m pc ls [.int r])) (hP : va_P G vwCl (w_X10_closedSet Y h_t B_t B_t_current t_toldCount t_current_n t_current_cells) s.heap) (hD : va_D A (w_X10_closedSet Y h_t B_t B_t_current t_toldCount t_current_n t_current_cells)) (h : pX10_closedSet t_current_n t_current_cells x1 K) : W p l e R s m args below meth c s.heap [] 0 0 Q (entryFrame m ([.ref h_t, .int x1] : List Value).toArray 7) := by
  have inX10 : ∀ w ∈ u_ws RX10 TX10 15, w ∈ wsX10_closedSet := by decide +kernel
  have inX7 : ∀ w ∈ u_ws RX7 TX7 2, w ∈ wsX10_closedSet := by decide +kernel
  have hf14 := hts (.fieldLink RX10 14 "RackBench" "current" "LRackBench$Table;") (by decide +kernel)
  have hl := lv_entry ([.ref h_t, .int x1]) (n := 7) (Nat.le_of_ble_eq_true rfl)
  rw [lg_entry_eq]
  generalize (lg_sl ([.ref h_t, .int x1]) ++ List.replicate (7 - (lg_sl ([.ref h_t, .int x1])).length) Slot.unset).toArray = ls at hl ⊢
  have hl : lv_has ls 7 [(0, .ref h_t), (1, .int x1)] := hl
  generalize hH0 : s.heap = H at hP ⊢
  have hS : va_S A s.heap H [] := by rw [← hH0]; exact va_S.rf
  clear hH0
  generalize ([] : List Loc) = locs at hS ⊢
  refine lv_iload_n hx hb dX10_closedSet_0 rfl (lv_at hl 1 rfl) ?_
  refine lv_istore_n (lv' := [(2, .int x1), (0, .ref h_t), (1, .int x1)]) hx hb dX10_closedSet_1 rfl hl (by decide) rfl (fun ls hl => ?_)
  refine lv_iconst (v := 0) hx hb dX10_closedSet_2 (by decide) ?_
  refine lv_istore_n (lv' := [(3, .int (0 : Int32)), (2, .int x1), (0, .ref h_t), (1, .int x1)]) hx hb dX10_closedSet_3 rfl hl (by decide) rfl (fun ls hl => ?_)
  refine lv_iconst (v := 0) hx hb dX10_closedSet_4 (by decide) ?_
  refine lv_istore (lv' := [(4, .int (0 : Int32)), (3, .int (0 : Int32)), (2, .int x1), (0, .ref h_t), (1, .int x1)]) hx hb dX10_closedSet_5 hl (by decide) rfl (fun ls hl => ?_)
  obtain ⟨I7, m7, hI7, hB7⟩ := h
  have L7 : ∀  (I7 : Int32 → Int32 → Int32 → Prop) (m7 : Int32 → Int32 → Int32 → Nat), (∀ (x2 : Int32) (x3 : Int32) (x4 : Int32), I7 x2 x3 x4 → pX10_closedSet_7 t_current_n t_current_cells K x2 x3 x4 (fun x2' x3' x4' => I7 x2' x3' x4' ∧ m7 x2' x3' x4' < m7 x2 x3 x4)) → ∀ (n : Nat) (x2 : Int32) (x3 : Int32) (x4 : Int32) (H : Heap) (locs : List Loc) (ls : Array Slot), I7 x2 x3 x4 → m7 x2 x3 x4 < n → va_P G vwCl (w_X10_closedSet Y h_t B_t B_t_current t_toldCount t_current_n t_current_cells) H → va_D A (w_X10_closedSet Y h_t B_t B_t_current t_toldCount t_current_n t_current_cells) → va_S A s.heap H locs → lv_has ls 7 [(0, .ref h_t), (2, .int x2), (3, .int x3), (4, .int x4)] → W p l e R s m args below meth c H locs 0 0 Q (F0 m 7 ls []) := by
    intro  I7 m7 hB7 n
    induction n with
    | zero => intro x2 x3 x4 H locs ls _ hm; exact absurd hm (Nat.not_lt_zero _)
    | succ n ih =>
      intro x2 x3 x4 H locs ls hI hm hP hD hS hl
      obtain ⟨R7, h, rec7⟩ : ∃ R7 : Int32 → Int32 → Int32 → Prop, pX10_closedSet_7 t_current_n t_current_cells K x2 x3 x4 R7 ∧ ∀ (x2 : Int32) (x3 : Int32) (x4 : Int32) (H : Heap) (locs : List Loc) (ls : Array Slot), R7 x2 x3 x4 → va_P G vwCl (w_X10_closedSet Y h_t B_t B_t_current t_toldCount t_current_n t_current_cells) H → va_D A (w_X10_closedSet Y h_t B_t B_t_current t_toldCount t_current_n t_current_cells) → va_S A s.heap H locs → lv_has ls 7 [(0, .ref h_t), (2, .int x2), (3, .int x3), (4, .int x4)] → W p l e R s m args below meth c H locs 0 0 Q (F0 m 7 ls []) := ⟨_, hB7 x2 x3 x4 hI, fun x2 x3 x4 H locs ls hh hP hD hS hl => ih x2 x3 x4 H locs ls hh.1 (Nat.lt_of_lt_of_le hh.2 (Nat.le_of_lt_succ hm)) hP hD hS hl⟩
      refine lv_iload hx hb dX10_closedSet_7 (lv_at hl 3 rfl) ?_
      refine lv_aload_n hx hb dX10_closedSet_9 rfl (lv_at hl 0 rfl) ?_
      refine va_get (D := G) (ci := 9) (v := .ref (B_t 0)) (C := RX10) (T := TX10) (N := 15) hx hb hts inX10 hown hK hP 0 rfl rfl 0 (by decide) hf14 (fun _ h9 => h9) rfl dX10_closedSet_10 ?_
      refine va_getN (D := G) (ci := 6) (v := .int t_current_n) (C := RX7) (T := TX7) (N := 2) hx hb hts inX7 hown hK hP 1 rfl rfl 1 (by decide) (hE.nest args 0 _ rfl) (fun _ h9 => h9) rfl dX10_closedSet_13 ?_
      obtain ⟨ht, hf⟩ := h
      refine lv_icmp_ge (tgt := 105) hx hb dX10_closedSet_16 (by decide) (fun c9 => ?_) (fun c9 => ?_)
      · have h := ht c9
        refine lv_iload_n hx hb dX10_closedSet_105 rfl (lv_at hl 1 rfl) ?_
        exact hret x2  H locs ls _ hP hD hS h dX10_closedSet_106
      · have h := hf c9
        refine lv_iload_n hx hb dX10_closedSet_19 rfl (lv_at hl 1 rfl) ?_
        refine lv_iload_n hx hb dX10_closedSet_20 rfl (lv_at hl 2 rfl) ?_
        obtain ⟨ht, hf⟩ := h
        refine lv_icmp_eq (tgt := 105) hx hb dX10_closedSet_21 (by decide) (fun c9 => ?_) (fun c9 => ?_)
        · have h := ht c9
          refine lv_iload_n hx hb dX10_closedSet_105 rfl (lv_at hl 1 rfl) ?_
          exact hret x2  H locs ls _ hP hD hS h dX10_closedSet_106
        · have h := hf c9
          refine lv_iload_n hx hb dX10_closedSet_24 rfl (lv_at hl 1 rfl) ?_
          refine lv_istore_n (lv' := [(3, .int x2), (0, .ref h_t), (2, .int x2), (4, .int x4)]) hx hb dX10_closedSet_25 rfl hl (by decide) rfl (fun ls hl => ?_)
          refine lv_iconst (v := 0) hx hb dX10_closedSet_26 (by decide) ?_
          refine lv_istore (lv' := [(5, .int (0 : Int32)), (3, .int x2), (0, .ref h_t), (2, .int x2), (4, .int x4)]) hx hb dX10_closedSet_27 hl (by decide) rfl (fun ls hl => ?_)
          obtain ⟨I29, m29, hI29, hB29⟩ := h
          have L29 : ∀ (x3 : Int32) (x4 : Int32) (I29 : Int32 → Int32 → Prop) (m29 : Int32 → Int32 → Nat), (∀ (x2 : Int32) (x5 : Int32), I29 x2 x5 → pX10_closedSet_29 t_current_n t_current_cells R7 K x3 x4 x2 x5 (fun x2' x5' => I29 x2' x5' ∧ m29 x2' x5' < m29 x2 x5)) → ∀ (n : Nat) (x2 : Int32) (x5 : Int32) (H : Heap) (locs : List Loc) (ls : Array Slot), I29 x2 x5 → m29 x2 x5 < n → va_P G vwCl (w_X10_closedSet Y h_t B_t B_t_current t_toldCount t_current_n t_current_cells) H → va_D A (w_X10_closedSet Y h_t B_t B_t_current t_toldCount t_current_n t_current_cells) → va_S A s.heap H locs → lv_has ls 7 [(0, .ref h_t), (2, .int x2), (3, .int x3), (4, .int x4), (5, .int x5)] → W p l e R s m args below meth c H locs 0 0 Q (F0 m 29 ls []) := by
            intro x3 x4 I29 m29 hB29 n
            induction n with
            | zero => intro x2 x5 H locs ls _ hm; exact absurd hm (Nat.not_lt_zero _)
            | succ n ih =>
              intro x2 x5 H locs ls hI hm hP hD hS hl
              obtain ⟨R29, h, rec29⟩ : ∃ R29 : Int32 → Int32 → Prop, pX10_closedSet_29 t_current_n t_current_cells R7 K x3 x4 x2 x5 R29 ∧ ∀ (x2 : Int32) (x5 : Int32) (H : Heap) (locs : List Loc) (ls : Array Slot), R29 x2 x5 → va_P G vwCl (w_X10_closedSet Y h_t B_t B_t_current t_toldCount t_current_n t_current_cells) H → va_D A (w_X10_closedSet Y h_t B_t B_t_current t_toldCount t_current_n t_current_cells) → va_S A s.heap H locs → lv_has ls 7 [(0, .ref h_t), (2, .int x2), (3, .int x3), (4, .int x4), (5, .int x5)] → W p l e R s m args below meth c H locs 0 0 Q (F0 m 29 ls []) := ⟨_, hB29 x2 x5 hI, fun x2 x5 H locs ls hh hP hD hS hl => ih x2 x5 H locs ls hh.1 (Nat.lt_of_lt_of_le hh.2 (Nat.le_of_lt_succ hm)) hP hD hS hl⟩
              refine lv_iload hx hb dX10_closedSet_29 (lv_at hl 4 rfl) ?_
              refine lv_aload_n hx hb dX10_closedSet_31 rfl (lv_at hl 0 rfl) ?_
              refine va_get (D := G) (ci := 9) (v := .ref (B_t 0)) (C := RX10) (T := TX10) (N := 15) hx hb hts inX10 hown hK hP 0 rfl rfl 0 (by decide) hf14 (fun _ h9 => h9) rfl dX10_closedSet_32 ?_
              refine va_getN (D := G) (ci := 6) (v := .int t_current_n) (C := RX7) (T := TX7) (N := 2) hx hb hts inX7 hown hK hP 1 rfl rfl 1 (by decide) (hE.nest args 0 _ rfl) (fun _ h9 => h9) rfl dX10_closedSet_35 ?_
              obtain ⟨ht, hf⟩ := h
              refine lv_icmp_ge (tgt := 99) hx hb dX10_closedSet_38 (by decide) (fun c9 => ?_) (fun c9 => ?_)
              · have h := ht c9
                refine lv_iinc (v := (x4 + 1)) (lv' := [(4, .int (x4 + 1)), (0, .ref h_t), (2, .int x2), (3, .int x3), (5, .int x5)]) hx hb dX10_closedSet_99 hl (k := 3) rfl rfl (by decide) rfl (fun ls hl => ?_)
                refine lv_goto (tgt := 7) hx hb dX10_closedSet_102 (by decide) ?_
                exact rec7 x2 x3 (x4 + 1) H locs ls h hP hD hS (lv_sub hl [1, 2, 3, 0] rfl)
              · have h := hf c9
                refine lv_iconst (v := 0) hx hb dX10_closedSet_41 (by decide) ?_
                refine lv_istore (lv' := [(6, .int (0 : Int32)), (0, .ref h_t), (2, .int x2), (3, .int x3), (4, .int x4), (5, .int x5)]) hx hb dX10_closedSet_42 hl (by decide) rfl (fun ls hl => ?_)
                obtain ⟨I44, m44, hI44, hB44⟩ := h
                have L44 : ∀ (x5 : Int32) (I44 : Int32 → Int32 → Prop) (m44 : Int32 → Int32 → Nat), (∀ (x2 : Int32) (x6 : Int32), I44 x2 x6 → pX10_closedSet_44 t_current_n t_current_cells R7 R29 K x3 x4 x5 x2 x6 (fun x2' x6' => I44 x2' x6' ∧ m44 x2' x6' < m44 x2 x6)) → ∀ (n : Nat) (x2 : Int32) (x6 : Int32) (H : Heap) (locs : List Loc) (ls : Array Slot), I44 x2 x6 → m44 x2 x6 < n → va_P G vwCl (w_X10_closedSet Y h_t B_t B_t_current t_toldCount t_current_n t_current_cells) H → va_D A (w_X10_closedSet Y h_t B_t B_t_current t_toldCount t_current_n t_current_cells) → va_S A s.heap H locs → lv_has ls 7 [(0, .ref h_t), (2, .int x2), (3, .int x3), (4, .int x4), (5, .int x5), (6, .int x6)] → W p l e R s m args below meth c H locs 0 0 Q (F0 m 44 ls []) := by
                  intro x5 I44 m44 hB44 n
                  induction n with
                  | zero => intro x2 x6 H locs ls _ hm; exact absurd hm (Nat.not_lt_zero _)
                  | succ n ih =>
                    intro x2 x6 H locs ls hI hm hP hD hS hl
                    obtain ⟨R44, h, rec44⟩ : ∃ R44 : Int32 → Int32 → Prop, pX10_closedSet_44 t_current_n t_current_cells R7 R29 K x3 x4 x5 x2 x6 R44 ∧ ∀ (x2 : Int32) (x6 : Int32) (H : Heap) (locs : List Loc) (ls : Array Slot), R44 x2 x6 → va_P G vwCl (w_X10_closedSet Y h_t B_t B_t_current t_toldCount t_current_n t_current_cells) H → va_D A (w_X10_closedSet Y h_t B_t B_t_current t_toldCount t_current_n t_current_cells) → va_S A s.heap H locs → lv_has ls 7 [(0, .ref h_t), (2, .int x2), (3, .int x3), (4, .int x4), (5, .int x5), (6, .int x6)] → W p l e R s m args below meth c H locs 0 0 Q (F0 m 44 ls []) := ⟨_, hB44 x2 x6 hI, fun x2 x6 H locs ls hh hP hD hS hl => ih x2 x6 H locs ls hh.1 (Nat.lt_of_lt_of_le hh.2 (Nat.le_of_lt_succ hm)) hP hD hS hl⟩
                    refine lv_iload hx hb dX10_closedSet_44 (lv_at hl 5 rfl) ?_
                    refine lv_aload_n hx hb dX10_closedSet_46 rfl (lv_at hl 0 rfl) ?_
                    refine va_get (D := G) (ci := 9) (v := .ref (B_t 0)) (C := RX10) (T := TX10) (N := 15) hx hb hts inX10 hown hK hP 0 rfl rfl 0 (by decide) hf14 (fun _ h9 => h9) rfl dX10_closedSet_47 ?_
                    refine va_getN (D := G) (ci := 6) (v := .int t_current_n) (C := RX7) (T := TX7) (N := 2) hx hb hts inX7 hown hK hP 1 rfl rfl 1 (by decide) (hE.nest args 0 _ rfl) (fun _ h9 => h9) rfl dX10_closedSet_50 ?_
                    obtain ⟨ht, hf⟩ := h
                    refine lv_icmp_ge (tgt := 93) hx hb dX10_closedSet_53 (by decide) (fun c9 => ?_) (fun c9 => ?_)
                    · have h := ht c9
                      refine lv_iinc (v := (x5 + 1)) (lv' := [(5, .int (x5 + 1)), (0, .ref h_t), (2, .int x2), (3, .int x3), (4, .int x4), (6, .int x6)]) hx hb dX10_closedSet_93 hl (k := 4) rfl rfl (by decide) rfl (fun ls hl => ?_)
                      refine lv_goto (tgt := 29) hx hb dX10_closedSet_96 (by decide) ?_
                      exact rec29 x2 (x5 + 1) H locs ls h hP hD hS (lv_sub hl [1, 2, 3, 4, 0] rfl)
                    · have h := hf c9
                      refine lv_iload_n hx hb dX10_closedSet_56 rfl (lv_at hl 1 rfl) ?_
                      refine lv_iload hx hb dX10_closedSet_57 (lv_at hl 4 rfl) ?_
                      refine lv_ishr hx hb dX10_closedSet_59 ?_
                      refine lv_iload_n hx hb dX10_closedSet_60 rfl (lv_at hl 1 rfl) ?_
                      refine lv_iload hx hb dX10_closedSet_61 (lv_at hl 5 rfl) ?_
                      refine lv_ishr hx hb dX10_closedSet_63 ?_
                      refine lv_iand hx hb dX10_closedSet_64 ?_
                      refine lv_iconst (v := 1) hx hb dX10_closedSet_65 (by decide) ?_
                      refine lv_iand hx hb dX10_closedSet_66 ?_
                      refine lv_iconst (v := 1) hx hb dX10_closedSet_67 (by decide) ?_
                      obtain ⟨ht, hf⟩ := h
                      refine lv_icmp_ne (tgt := 87) hx hb dX10_closedSet_68 (by decide) (fun c9 => ?_) (fun c9 => ?_)
                      · have h := ht c9
                        refine lv_iinc (v := (x6 + 1)) (lv' := [(6, .int (x6 + 1)), (0, .ref h_t), (2, .int x2), (3, .int x3), (4, .int x4), (5, .int x5)]) hx hb dX10_closedSet_87 hl (k := 5) rfl rfl (by decide) rfl (fun ls hl => ?_)
                        refine lv_goto (tgt := 44) hx hb dX10_closedSet_90 (by decide) ?_
                        exact rec44 x2 (x6 + 1) H locs ls h hP hD hS (lv_sub hl [1, 2, 3, 4, 5, 0] rfl)
                      · have h := hf c9
                        refine lv_iload_n hx hb dX10_closedSet_71 rfl (lv_at hl 1 rfl) ?_
                        refine lv_iconst (v := 1) hx hb dX10_closedSet_72 (by decide) ?_
                        refine lv_aload_n hx hb dX10_closedSet_73 rfl (lv_at hl 0 rfl) ?_
                        refine va_get (D := G) (ci := 9) (v := .ref (B_t 0)) (C := RX10) (T := TX10) (N := 15) hx hb hts inX10 hown hK hP 0 rfl rfl 0 (by decide) hf14 (fun _ h9 => h9) rfl dX10_closedSet_74 ?_
                        refine lv_iload hx hb dX10_closedSet_77 (lv_at hl 4 rfl) ?_
                        refine lv_iload hx hb dX10_closedSet_79 (lv_at hl 5 rfl) ?_
                        refine mc_iV ⟨hx, hb, hml, hown, hts⟩ hK hE hA hP hD hS (c_X7_turned l G Y tF H.size (B_t 0) B_t_current t_current_n t_current_cells x5 x6 h) (cwV 2 hts gX10_closedSet_X7_turned rfl rfl rfl (by decide +kernel) ⟨Nat.le_trans (by decide) hRf, Nat.le_trans (by decide) hRl⟩) (fun u => (w_X10_closedSet Y h_t B_t B_t_current t_toldCount t_current_n t_current_cells)) [1, 2] [0] [0, 1, 2] rfl rfl rfl rfl (by decide) (fun _ => rfl) rfl 1 6 rfl rfl rfl rfl hl.1 rfl (Nat.le_of_ble_eq_true rfl) dX10_closedSet_81 (fun r81 u H locs h hP hD hS => ?_)
                        try dsimp only at h
                        have hP : va_P G vwCl (w_X10_closedSet Y h_t B_t B_t_current t_toldCount t_current_n t_current_cells) H := hP
                        have hD : va_D A (w_X10_closedSet Y h_t B_t B_t_current t_toldCount t_current_n t_current_cells) := hD
                        refine lv_ishl hx hb dX10_closedSet_84 ?_
                        refine lv_ior hx hb dX10_closedSet_85 ?_
                        refine lv_istore_n (lv' := [(2, .int (x2 ||| ((1 : Int32) <<< (r81 &&& 31)))), (0, .ref h_t), (3, .int x3), (4, .int x4), (5, .int x5), (6, .int x6)]) hx hb dX10_closedSet_86 rfl hl (by decide) rfl (fun ls hl => ?_)
                        refine lv_iinc (v := (x6 + 1)) (lv' := [(6, .int (x6 + 1)), (2, .int (x2 ||| ((1 : Int32) <<< (r81 &&& 31)))), (0, .ref h_t), (3, .int x3), (4, .int x4), (5, .int x5)]) hx hb dX10_closedSet_87 hl (k := 5) rfl rfl (by decide) rfl (fun ls hl => ?_)
                        refine lv_goto (tgt := 44) hx hb dX10_closedSet_90 (by decide) ?_
                        exact rec44 (x2 ||| ((1 : Int32) <<< (r81 &&& 31))) (x6 + 1) H locs ls h hP hD hS (lv_sub hl [2, 1, 3, 4, 5, 0] rfl)
                exact L44 x5 I44 m44 hB44 _ x2 (0 : Int32) H locs ls hI44 (Nat.lt_succ_self _) hP hD hS (lv_sub hl [1, 2, 3, 4, 5, 0] rfl)
          exact L29 x2 x4 I29 m29 hB29 _ x2 (0 : Int32) H locs ls hI29 (Nat.lt_succ_self _) hP hD hS (lv_sub hl [2, 3, 1, 4, 0] rfl)
  exact L7  I7 m7 hB7 _ x1 (0 : Int32) (0 : Int32) H locs ls hI7 (Nat.lt_succ_self _) hP hD hS (lv_sub hl [3, 2, 1, 0] rfl)

set_option maxHeartbeats 4000000 in
set_option maxRecDepth 100000 in
theorem c_X10_closedSet (l : Launch) (G : va_G) (Y : Nat → ClassId) (tF sz : Nat) (h_t : Nat) (B_t : Nat → Nat) (B_t_current : Nat → Nat) (t_toldCount : Int32) (t_current_n : Int32) (t_current_cells : Nat → Int32) (x1 : Int32) {K : Int32 → Prop} (h : pX10_closedSet t_current_n t_current_cells x1 K) : Met l yX10_closedSet wsX10_closedSet ({ frames := 1, cells := 0, slots := 0, locals := 22 }) (PcM G Y tF sz (w_X10_closedSet Y h_t B_t B_t_current t_toldCount t_current_n t_current_cells) [.ref h_t, .int x1]) (va_Qi (fun (r : Int32) (u : Unit) => K r ) (fun u t => BM G Y (va_A (w_X10_closedSet Y h_t B_t B_t_current t_toldCount t_current_n t_current_cells) sz) (w_X10_closedSet Y h_t B_t B_t_current t_toldCount t_current_n t_current_cells) t) (va_A (w_X10_closedSet Y h_t B_t B_t_current t_toldCount t_current_n t_current_cells) sz)) 0 0 (va_A (w_X10_closedSet Y h_t B_t B_t_current t_toldCount t_current_n t_current_cells) sz) := by
  refine Met.ofW (cc := cX10_closedSet) (maxL := 7) (ret := (some .int)) (by decide +kernel) rfl ?_
  intro p e s m args below meth c s₁ B hml hv
  obtain ⟨rfl, hsz, hP, hK, hD0, hE⟩ := hv
  have hts := atoms_spec (ws := wsX10_closedSet) B.pre
  have hown : s.vm.findClass RX10 = some m.cls := findClass_of_methodNamed B.named
  have hlocks := B.notSynchronized
  subst hsz
  have hD := hD0.self (sz := s.heap.size)
  exact wk_X10_closedSet h_t B_t B_t_current t_toldCount t_current_n t_current_cells x1 B.exec B.bytes hml hown hts hK hE (fun q h => Or.inr h) (Nat.le_refl _) (Nat.le_refl _) (fun r  H locs ls pc hP hD hS hk hd => W.iret (v := r) B.exec B.bytes B.returns (fun t ht hW => ⟨⟨r, (), rfl, hk, by rw [ht]; exact hP, va_K.moved hW.alike hK, hD⟩, hS.F ht⟩) hS.2.2 hd) hP hD h

abbrev w_X10_within (Y : Nat → ClassId) (h_t : Nat) (B_t : Nat → Nat) (B_t_current : Nat → Nat) (t_toldCount : Int32) (t_current_n : Int32) (t_current_cells : Nat → Int32) (t_told : Nat → Int32) : va_W := [(h_t, .inr (9, [.ref (B_t 0), .ref (B_t 1), .ref (B_t 2), .ref (B_t 3), .ref (B_t 4), .ref (B_t 5), .ref (B_t 6), .ref (B_t 7), .ref (B_t 8), .ref (B_t 9), .ref (B_t 10), .ref (B_t 11), .ref (B_t 12), .ref (B_t 13), .int t_toldCount])), ((B_t 0), .inr (6, [.ref (B_t_current 0), .int t_current_n])), ((B_t_current 0), .inl (Y 0, 64, .inl t_current_cells)), ((B_t 13), .inl (Y 0, 8, .inl t_told))]

set_option maxHeartbeats 4000000 in
set_option maxRecDepth 100000 in
theorem wk_X10_within {p : Program} {l : Launch} {e : Env} {R : Room} {s : State} {m : MethodId} {args : Array Value} {below : List Frame} {meth : Method} {c : Code} {Q : State → Prop} {G : va_G} {Y : Nat → ClassId} {tF : Nat} {A : Nat → Prop} (h_t : Nat) (B_t : Nat → Nat) (B_t_current : Nat → Nat) (t_toldCount : Int32) (t_current_n : Int32) (t_current_cells : Nat → Int32) (t_told : Nat → Int32) (x1 : Int32) {K : Int32 → Int32 → (Nat → Int32) → Prop} (hx : p.tables.exec = Jvm.exec) (hb : c.code = cX10_within) (hml : c.maxLocals = 4) (hown : s.vm.findClass RX10 = some m.cls) (hts : ∀ w ∈ wsX10_within, w.before args s = true) (hK : va_K G vwCl (tyL Y) s) (hE : Ev A tF s) (hA : ∀ q, s.heap.size ≤ q → A q) (hRf : 2 ≤ R.frames) (hRl : 48 ≤ R.locals) (hret : ∀ (r : Int32) (t_toldCount : Int32) (t_told : Nat → Int32) (H : Heap) (locs : List Loc) (ls : Array Slot) (pc : Nat), va_P G vwCl (w_X10_within Y h_t B_t B_t_current t_toldCount t_current_n t_current_cells t_told) H → va_D A (w_X10_within Y h_t B_t B_t_current t_toldCount t_current_n t_current_cells t_told) → va_S A s.heap H locs → K r t_toldCount t_told → decode cX10_within pc = .ok (.ireturn, 1) → W p l e R s m args below meth c H locs 0 0 Q (F0 m pc ls [.int r])) (hP : va_P G vwCl (w_X10_within Y h_t B_t B_t_current t_toldCount t_current_n t_current_cells t_told) s.heap) (hD : va_D A (w_X10_within Y h_t B_t B_t_current t_toldCount t_current_n t_current_cells t_told)) (h : pX10_within t_toldCount t_current_n t_current_cells t_told x1 K) : W p l e R s m args below meth c s.heap [] 0 0 Q (entryFrame m ([.ref h_t, .int x1] : List Value).toArray 4) := by
  have inX10 : ∀ w ∈ u_ws RX10 TX10 15, w ∈ wsX10_within := by decide +kernel
  have inX7 : ∀ w ∈ u_ws RX7 TX7 2, w ∈ wsX10_within := by decide +kernel
  have hf14 := hts (.fieldLink RX10 14 "RackBench" "current" "LRackBench$Table;") (by decide +kernel)
  have hf91 := hts (.fieldLink RX10 91 "RackBench" "toldCount" "I") (by decide +kernel)
  have hl := lv_entry ([.ref h_t, .int x1]) (n := 4) (Nat.le_of_ble_eq_true rfl)
  rw [lg_entry_eq]
  generalize (lg_sl ([.ref h_t, .int x1]) ++ List.replicate (4 - (lg_sl ([.ref h_t, .int x1])).length) Slot.unset).toArray = ls at hl ⊢
  have hl : lv_has ls 4 [(0, .ref h_t), (1, .int x1)] := hl
  generalize hH0 : s.heap = H at hP ⊢
  have hS : va_S A s.heap H [] := by rw [← hH0]; exact va_S.rf
  clear hH0
  generalize ([] : List Loc) = locs at hS ⊢
  refine lv_iload_n hx hb dX10_within_0 rfl (lv_at hl 1 rfl) ?_
  obtain ⟨ht, hf⟩ := h
  refine lv_if_le (tgt := 17) hx hb dX10_within_1 (by decide) (fun c9 => ?_) (fun c9 => ?_)
  · have h := ht c9
    refine lv_iconst (v := -1) hx hb dX10_within_17 (by decide) ?_
    exact hret (-1 : Int32) t_toldCount t_told H locs ls _ hP hD hS h dX10_within_18
  · have h := hf c9
    refine lv_iload_n hx hb dX10_within_4 rfl (lv_at hl 1 rfl) ?_
    refine lv_iconst (v := 1) hx hb dX10_within_5 (by decide) ?_
    refine lv_aload_n hx hb dX10_within_6 rfl (lv_at hl 0 rfl) ?_
    refine va_get (D := G) (ci := 9) (v := .ref (B_t 0)) (C := RX10) (T := TX10) (N := 15) hx hb hts inX10 hown hK hP 0 rfl rfl 0 (by decide) hf14 (fun _ h9 => h9) rfl dX10_within_7 ?_
    refine va_getN (D := G) (ci := 6) (v := .int t_current_n) (C := RX7) (T := TX7) (N := 2) hx hb hts inX7 hown hK hP 1 rfl rfl 1 (by decide) (hE.nest args 0 _ rfl) (fun _ h9 => h9) rfl dX10_within_10 ?_
    refine lv_ishl hx hb dX10_within_13 ?_
    obtain ⟨ht, hf⟩ := h
    refine lv_icmp_lt (tgt := 19) hx hb dX10_within_14 (by decide) (fun c9 => ?_) (fun c9 => ?_)
    · have h := ht c9
      refine lv_aload_n hx hb dX10_within_19 rfl (lv_at hl 0 rfl) ?_
      refine lv_iload_n hx hb dX10_within_20 rfl (lv_at hl 1 rfl) ?_
      refine mc_iV ⟨hx, hb, hml, hown, hts⟩ hK hE hA hP hD hS (c_X10_closedSet l G Y tF H.size h_t B_t B_t_current t_toldCount t_current_n t_current_cells x1 h) (cwV 1 hts gX10_within_X10_closedSet rfl rfl rfl (by decide +kernel) ⟨Nat.le_trans (by decide) hRf, Nat.le_trans (by decide) hRl⟩) (fun u => (w_X10_within Y h_t B_t B_t_current t_toldCount t_current_n t_current_cells t_told)) [0, 1, 2] [3] [1, 2, 3, 0] rfl rfl rfl rfl (by decide) (fun _ => rfl) rfl 0 9 rfl rfl rfl rfl hl.1 rfl (Nat.le_of_ble_eq_true rfl) dX10_within_21 (fun r21 u H locs h hP hD hS => ?_)
      try dsimp only at h
      have hP : va_P G vwCl (w_X10_within Y h_t B_t B_t_current t_toldCount t_current_n t_current_cells t_told) H := hP
      have hD : va_D A (w_X10_within Y h_t B_t B_t_current t_toldCount t_current_n t_current_cells t_told) := hD
      refine lv_istore_n (lv' := [(2, .int r21), (0, .ref h_t), (1, .int x1)]) hx hb dX10_within_24 rfl hl (by decide) rfl (fun ls hl => ?_)
      refine lv_aload_n hx hb dX10_within_25 rfl (lv_at hl 1 rfl) ?_
      refine lv_iconst (v := 0) hx hb dX10_within_26 (by decide) ?_
      refine va_put (D := G) (ci := 9) (v := .int (0 : Int32)) (ty := .int) (C := RX10) (T := TX10) (N := 15) hx hb hts inX10 tyX10 tyX10_ok nmX10 hown hK hP hD hS 0 rfl rfl 14 (by decide) hf91 (fun _ h9 => h9) rfl (by decide +kernel) rfl rfl (Nat.le_of_ble_eq_true rfl) dX10_within_27 (fun H locs hP hD hS => ?_)
      have hP : va_P G vwCl (w_X10_within Y h_t B_t B_t_current (0 : Int32) t_current_n t_current_cells t_told) H := hP
      have hD : va_D A (w_X10_within Y h_t B_t B_t_current (0 : Int32) t_current_n t_current_cells t_told) := hD
      refine lv_iconst (v := 0) hx hb dX10_within_30 (by decide) ?_
      refine lv_istore_n (lv' := [(3, .int (0 : Int32)), (2, .int r21), (0, .ref h_t), (1, .int x1)]) hx hb dX10_within_31 rfl hl (by decide) rfl (fun ls hl => ?_)
      obtain ⟨I32, m32, hI32, hB32⟩ := h
      have L32 : ∀ (x2 : Int32) (I32 : Int32 → Int32 → (Nat → Int32) → Prop) (m32 : Int32 → Int32 → (Nat → Int32) → Nat), (∀ (x3 : Int32) (t_toldCount : Int32) (t_told : Nat → Int32), I32 x3 t_toldCount t_told → pX10_within_32 t_current_n t_current_cells K x2 x3 t_toldCount t_told (fun x3' t_toldCount' t_told' => I32 x3' t_toldCount' t_told' ∧ m32 x3' t_toldCount' t_told' < m32 x3 t_toldCount t_told)) → ∀ (n : Nat) (x3 : Int32) (t_toldCount : Int32) (t_told : Nat → Int32) (H : Heap) (locs : List Loc) (ls : Array Slot), I32 x3 t_toldCount t_told → m32 x3 t_toldCount t_told < n → va_P G vwCl (w_X10_within Y h_t B_t B_t_current t_toldCount t_current_n t_current_cells t_told) H → va_D A (w_X10_within Y h_t B_t B_t_current t_toldCount t_current_n t_current_cells t_told) → va_S A s.heap H locs → lv_has ls 4 [(0, .ref h_t), (2, .int x2), (3, .int x3)] → W p l e R s m args below meth c H locs 0 0 Q (F0 m 32 ls []) := by
        intro x2 I32 m32 hB32 n
        induction n with
        | zero => intro x3 t_toldCount t_told H locs ls _ hm; exact absurd hm (Nat.not_lt_zero _)
        | succ n ih =>
          intro x3 t_toldCount t_told H locs ls hI hm hP hD hS hl
          obtain ⟨R32, h, rec32⟩ : ∃ R32 : Int32 → Int32 → (Nat → Int32) → Prop, pX10_within_32 t_current_n t_current_cells K x2 x3 t_toldCount t_told R32 ∧ ∀ (x3 : Int32) (t_toldCount : Int32) (t_told : Nat → Int32) (H : Heap) (locs : List Loc) (ls : Array Slot), R32 x3 t_toldCount t_told → va_P G vwCl (w_X10_within Y h_t B_t B_t_current t_toldCount t_current_n t_current_cells t_told) H → va_D A (w_X10_within Y h_t B_t B_t_current t_toldCount t_current_n t_current_cells t_told) → va_S A s.heap H locs → lv_has ls 4 [(0, .ref h_t), (2, .int x2), (3, .int x3)] → W p l e R s m args below meth c H locs 0 0 Q (F0 m 32 ls []) := ⟨_, hB32 x3 t_toldCount t_told hI, fun x3 t_toldCount t_told H locs ls hh hP hD hS hl => ih x3 t_toldCount t_told H locs ls hh.1 (Nat.lt_of_lt_of_le hh.2 (Nat.le_of_lt_succ hm)) hP hD hS hl⟩
          refine lv_iload_n hx hb dX10_within_32 rfl (lv_at hl 2 rfl) ?_
          refine lv_aload_n hx hb dX10_within_33 rfl (lv_at hl 0 rfl) ?_
          refine va_get (D := G) (ci := 9) (v := .ref (B_t 0)) (C := RX10) (T := TX10) (N := 15) hx hb hts inX10 hown hK hP 0 rfl rfl 0 (by decide) hf14 (fun _ h9 => h9) rfl dX10_within_34 ?_
          refine va_getN (D := G) (ci := 6) (v := .int t_current_n) (C := RX7) (T := TX7) (N := 2) hx hb hts inX7 hown hK hP 1 rfl rfl 1 (by decide) (hE.nest args 0 _ rfl) (fun _ h9 => h9) rfl dX10_within_37 ?_
          obtain ⟨ht, hf⟩ := h
          refine lv_icmp_ge (tgt := 63) hx hb dX10_within_40 (by decide) (fun c9 => ?_) (fun c9 => ?_)
          · have h := ht c9
            refine lv_aload_n hx hb dX10_within_63 rfl (lv_at hl 0 rfl) ?_
            refine va_get (D := G) (ci := 9) (v := .int t_toldCount) (C := RX10) (T := TX10) (N := 15) hx hb hts inX10 hown hK hP 0 rfl rfl 14 (by decide) hf91 (fun _ h9 => h9) rfl dX10_within_64 ?_
            exact hret t_toldCount t_toldCount t_told H locs ls _ hP hD hS h dX10_within_67
          · have h := hf c9
            refine lv_iload_n hx hb dX10_within_43 rfl (lv_at hl 1 rfl) ?_
            refine lv_iload_n hx hb dX10_within_44 rfl (lv_at hl 2 rfl) ?_
            refine lv_ishr hx hb dX10_within_45 ?_
            refine lv_iconst (v := 1) hx hb dX10_within_46 (by decide) ?_
            refine lv_iand hx hb dX10_within_47 ?_
            refine lv_iconst (v := 1) hx hb dX10_within_48 (by decide) ?_
            obtain ⟨ht, hf⟩ := h
            refine lv_icmp_ne (tgt := 57) hx hb dX10_within_49 (by decide) (fun c9 => ?_) (fun c9 => ?_)
            · have h := ht c9
              refine lv_iinc (v := (x3 + 1)) (lv' := [(3, .int (x3 + 1)), (0, .ref h_t), (2, .int x2)]) hx hb dX10_within_57 hl (k := 2) rfl rfl (by decide) rfl (fun ls hl => ?_)
              refine lv_goto (tgt := 32) hx hb dX10_within_60 (by decide) ?_
              exact rec32 (x3 + 1) t_toldCount t_told H locs ls h hP hD hS (lv_sub hl [1, 2, 0] rfl)
            · have h := hf c9
              refine lv_aload_n hx hb dX10_within_52 rfl (lv_at hl 0 rfl) ?_
              refine lv_iload_n hx hb dX10_within_53 rfl (lv_at hl 2 rfl) ?_
              refine mc_vV ⟨hx, hb, hml, hown, hts⟩ hK hE hA hP hD hS (c_X10_tell l G Y tF H.size h_t B_t t_toldCount t_told x3 h) (cwV 1 hts gX10_within_X10_tell rfl rfl rfl (by decide +kernel) ⟨Nat.le_trans (by decide) hRf, Nat.le_trans (by decide) hRl⟩) (fun u => (w_X10_within Y h_t B_t B_t_current u.1 t_current_n t_current_cells u.2)) [0, 3] [1, 2] [2, 0, 1, 3] rfl rfl rfl rfl (by decide) (fun _ => rfl) rfl 0 9 rfl rfl rfl rfl hl.1 rfl (Nat.le_of_ble_eq_true rfl) dX10_within_54 (fun u H locs h hP hD hS => ?_)
              obtain ⟨t_toldCount_54, t_told_54⟩ := u
              try dsimp only at h
              have hP : va_P G vwCl (w_X10_within Y h_t B_t B_t_current t_toldCount_54 t_current_n t_current_cells t_told_54) H := hP
              have hD : va_D A (w_X10_within Y h_t B_t B_t_current t_toldCount_54 t_current_n t_current_cells t_told_54) := hD
              refine lv_iinc (v := (x3 + 1)) (lv' := [(3, .int (x3 + 1)), (0, .ref h_t), (2, .int x2)]) hx hb dX10_within_57 hl (k := 2) rfl rfl (by decide) rfl (fun ls hl => ?_)
              refine lv_goto (tgt := 32) hx hb dX10_within_60 (by decide) ?_
              exact rec32 (x3 + 1) t_toldCount_54 t_told_54 H locs ls h hP hD hS (lv_sub hl [1, 2, 0] rfl)
      exact L32 r21 I32 m32 hB32 _ (0 : Int32) (0 : Int32) t_told H locs ls hI32 (Nat.lt_succ_self _) hP hD hS (lv_sub hl [2, 1, 0] rfl)
    · have h := hf c9
      refine lv_iconst (v := -1) hx hb dX10_within_17 (by decide) ?_
      exact hret (-1 : Int32) t_toldCount t_told H locs ls _ hP hD hS h dX10_within_18

set_option maxHeartbeats 4000000 in
set_option maxRecDepth 100000 in
theorem c_X10_within (l : Launch) (G : va_G) (Y : Nat → ClassId) (tF sz : Nat) (h_t : Nat) (B_t : Nat → Nat) (B_t_current : Nat → Nat) (t_toldCount : Int32) (t_current_n : Int32) (t_current_cells : Nat → Int32) (t_told : Nat → Int32) (x1 : Int32) {K : Int32 → Int32 → (Nat → Int32) → Prop} (h : pX10_within t_toldCount t_current_n t_current_cells t_told x1 K) : Met l yX10_within wsX10_within ({ frames := 2, cells := 0, slots := 0, locals := 48 }) (PcM G Y tF sz (w_X10_within Y h_t B_t B_t_current t_toldCount t_current_n t_current_cells t_told) [.ref h_t, .int x1]) (va_Qi (fun (r : Int32) (u : Int32 × (Nat → Int32)) => K r u.1 u.2) (fun u t => BM G Y (va_A (w_X10_within Y h_t B_t B_t_current t_toldCount t_current_n t_current_cells t_told) sz) (w_X10_within Y h_t B_t B_t_current u.1 t_current_n t_current_cells u.2) t) (va_A (w_X10_within Y h_t B_t B_t_current t_toldCount t_current_n t_current_cells t_told) sz)) 0 0 (va_A (w_X10_within Y h_t B_t B_t_current t_toldCount t_current_n t_current_cells t_told) sz) := by
  refine Met.ofW (cc := cX10_within) (maxL := 4) (ret := (some .int)) (by decide +kernel) rfl ?_
  intro p e s m args below meth c s₁ B hml hv
  obtain ⟨rfl, hsz, hP, hK, hD0, hE⟩ := hv
  have hts := atoms_spec (ws := wsX10_within) B.pre
  have hown : s.vm.findClass RX10 = some m.cls := findClass_of_methodNamed B.named
  have hlocks := B.notSynchronized
  subst hsz
  have hD := hD0.self (sz := s.heap.size)
  exact wk_X10_within h_t B_t B_t_current t_toldCount t_current_n t_current_cells t_told x1 B.exec B.bytes hml hown hts hK hE (fun q h => Or.inr h) (Nat.le_refl _) (Nat.le_refl _) (fun r t_toldCount t_told H locs ls pc hP hD hS hk hd => W.iret (v := r) B.exec B.bytes B.returns (fun t ht hW => ⟨⟨r, (t_toldCount, t_told), rfl, hk, by rw [ht]; exact hP, va_K.moved hW.alike hK, hD⟩, hS.F ht⟩) hS.2.2 hd) hP hD h

abbrev w_X10_modulus (Y : Nat → ClassId) (h_t : Nat) (B_t : Nat → Nat) (B_t_twisting : Nat → Nat) (t_toldCount : Int32) (t_twisting_modulus : Int32) (t_twisting_values : Nat → Int32) : va_W := [(h_t, .inr (9, [.ref (B_t 0), .ref (B_t 1), .ref (B_t 2), .ref (B_t 3), .ref (B_t 4), .ref (B_t 5), .ref (B_t 6), .ref (B_t 7), .ref (B_t 8), .ref (B_t 9), .ref (B_t 10), .ref (B_t 11), .ref (B_t 12), .ref (B_t 13), .int t_toldCount])), ((B_t 4), .inr (8, [.ref (B_t_twisting 0), .int t_twisting_modulus])), ((B_t_twisting 0), .inl (Y 0, 64, .inl t_twisting_values))]

set_option maxHeartbeats 4000000 in
set_option maxRecDepth 100000 in
theorem wk_X10_modulus {p : Program} {l : Launch} {e : Env} {R : Room} {s : State} {m : MethodId} {args : Array Value} {below : List Frame} {meth : Method} {c : Code} {Q : State → Prop} {G : va_G} {Y : Nat → ClassId} {tF : Nat} {A : Nat → Prop} (h_t : Nat) (B_t : Nat → Nat) (B_t_twisting : Nat → Nat) (t_toldCount : Int32) (t_twisting_modulus : Int32) (t_twisting_values : Nat → Int32) (x1 : Int32) {K : Int32 → Int32 → (Nat → Int32) → Prop} (hx : p.tables.exec = Jvm.exec) (hb : c.code = cX10_modulus) (hml : c.maxLocals = 2) (hown : s.vm.findClass RX10 = some m.cls) (hts : ∀ w ∈ wsX10_modulus, w.before args s = true) (hK : va_K G vwCl (tyL Y) s) (hE : Ev A tF s) (hA : ∀ q, s.heap.size ≤ q → A q) (hRf : 2 ≤ R.frames) (hRl : 43 ≤ R.locals) (hret : ∀ (r : Int32) (t_twisting_modulus : Int32) (t_twisting_values : Nat → Int32) (H : Heap) (locs : List Loc) (ls : Array Slot) (pc : Nat), va_P G vwCl (w_X10_modulus Y h_t B_t B_t_twisting t_toldCount t_twisting_modulus t_twisting_values) H → va_D A (w_X10_modulus Y h_t B_t B_t_twisting t_toldCount t_twisting_modulus t_twisting_values) → va_S A s.heap H locs → zb r → K r t_twisting_modulus t_twisting_values → decode cX10_modulus pc = .ok (.ireturn, 1) → W p l e R s m args below meth c H locs 0 0 Q (F0 m pc ls [.int r])) (hP : va_P G vwCl (w_X10_modulus Y h_t B_t B_t_twisting t_toldCount t_twisting_modulus t_twisting_values) s.heap) (hD : va_D A (w_X10_modulus Y h_t B_t B_t_twisting t_toldCount t_twisting_modulus t_twisting_values)) (h : pX10_modulus t_twisting_modulus t_twisting_values x1 K) : W p l e R s m args below meth c s.heap [] 0 0 Q (entryFrame m ([.ref h_t, .int x1] : List Value).toArray 2) := by
  have inX10 : ∀ w ∈ u_ws RX10 TX10 15, w ∈ wsX10_modulus := by decide +kernel
  have inX9 : ∀ w ∈ u_ws RX9 TX9 2, w ∈ wsX10_modulus := by decide +kernel
  have hf31 := hts (.fieldLink RX10 31 "RackBench" "twisting" "LRackBench$Twist;") (by decide +kernel)
  have hl := lv_entry ([.ref h_t, .int x1]) (n := 2) (Nat.le_of_ble_eq_true rfl)
  rw [lg_entry_eq]
  generalize (lg_sl ([.ref h_t, .int x1]) ++ List.replicate (2 - (lg_sl ([.ref h_t, .int x1])).length) Slot.unset).toArray = ls at hl ⊢
  have hl : lv_has ls 2 [(0, .ref h_t), (1, .int x1)] := hl
  generalize hH0 : s.heap = H at hP ⊢
  have hS : va_S A s.heap H [] := by rw [← hH0]; exact va_S.rf
  clear hH0
  generalize ([] : List Loc) = locs at hS ⊢
  refine lv_iload_n hx hb dX10_modulus_0 rfl (lv_at hl 1 rfl) ?_
  refine lv_iconst (v := 2) hx hb dX10_modulus_1 (by decide) ?_
  obtain ⟨ht, hf⟩ := h
  refine lv_icmp_lt (tgt := 11) hx hb dX10_modulus_2 (by decide) (fun c9 => ?_) (fun c9 => ?_)
  · have h := ht c9
    refine lv_iconst (v := 0) hx hb dX10_modulus_11 (by decide) ?_
    obtain ⟨hz, h⟩ := h
    exact hret (0 : Int32) t_twisting_modulus t_twisting_values H locs ls _ hP hD hS hz h dX10_modulus_12
  · have h := hf c9
    refine lv_iload_n hx hb dX10_modulus_5 rfl (lv_at hl 1 rfl) ?_
    refine lv_bipush (v := 7) hx hb dX10_modulus_6 (by decide) ?_
    obtain ⟨ht, hf⟩ := h
    refine lv_icmp_le (tgt := 13) hx hb dX10_modulus_8 (by decide) (fun c9 => ?_) (fun c9 => ?_)
    · have h := ht c9
      refine lv_aload_n hx hb dX10_modulus_13 rfl (lv_at hl 0 rfl) ?_
      refine va_get (D := G) (ci := 9) (v := .ref (B_t 4)) (C := RX10) (T := TX10) (N := 15) hx hb hts inX10 hown hK hP 0 rfl rfl 4 (by decide) hf31 (fun _ h9 => h9) rfl dX10_modulus_14 ?_
      refine lv_iload_n hx hb dX10_modulus_17 rfl (lv_at hl 1 rfl) ?_
      refine va_putN (D := G) (ci := 8) (v := .int x1) (ty := .int) (C := RX9) (T := TX9) (N := 2) hx hb hts inX9 tyX9 tyX9_ok nmX9 hown hK hP hD hS 1 rfl rfl 1 (by decide) (hE.nest args 1 _ rfl) (fun _ h9 => h9) rfl (by decide +kernel) rfl rfl (Nat.le_of_ble_eq_true rfl) dX10_modulus_18 (fun H locs hP hD hS => ?_)
      have hP : va_P G vwCl (w_X10_modulus Y h_t B_t B_t_twisting t_toldCount x1 t_twisting_values) H := hP
      have hD : va_D A (w_X10_modulus Y h_t B_t B_t_twisting t_toldCount x1 t_twisting_values) := hD
      refine lv_aload_n hx hb dX10_modulus_21 rfl (lv_at hl 0 rfl) ?_
      refine va_get (D := G) (ci := 9) (v := .ref (B_t 4)) (C := RX10) (T := TX10) (N := 15) hx hb hts inX10 hown hK hP 0 rfl rfl 4 (by decide) hf31 (fun _ h9 => h9) rfl dX10_modulus_22 ?_
      refine mc_vV ⟨hx, hb, hml, hown, hts⟩ hK hE hA hP hD hS (c_X9_flatten l G Y tF H.size (B_t 4) B_t_twisting x1 t_twisting_values h) (cwV 0 hts gX10_modulus_X9_flatten rfl rfl rfl (by decide +kernel) ⟨Nat.le_trans (by decide) hRf, Nat.le_trans (by decide) hRl⟩) (fun u => (w_X10_modulus Y h_t B_t B_t_twisting t_toldCount x1 u)) [1, 2] [0] [0, 1, 2] rfl rfl rfl rfl (by decide) (fun _ => rfl) rfl 1 8 rfl rfl rfl rfl hl.1 rfl (Nat.le_of_ble_eq_true rfl) dX10_modulus_25 (fun u H locs h hP hD hS => ?_)
      obtain ⟨t_twisting_values_25, rfl⟩ : ∃ z, z = u := ⟨_, rfl⟩
      try dsimp only at h
      have hP : va_P G vwCl (w_X10_modulus Y h_t B_t B_t_twisting t_toldCount x1 t_twisting_values_25) H := hP
      have hD : va_D A (w_X10_modulus Y h_t B_t B_t_twisting t_toldCount x1 t_twisting_values_25) := hD
      refine lv_iconst (v := 1) hx hb dX10_modulus_28 (by decide) ?_
      obtain ⟨hz, h⟩ := h
      exact hret (1 : Int32) x1 t_twisting_values_25 H locs ls _ hP hD hS hz h dX10_modulus_29
    · have h := hf c9
      refine lv_iconst (v := 0) hx hb dX10_modulus_11 (by decide) ?_
      obtain ⟨hz, h⟩ := h
      exact hret (0 : Int32) t_twisting_modulus t_twisting_values H locs ls _ hP hD hS hz h dX10_modulus_12

set_option maxHeartbeats 4000000 in
set_option maxRecDepth 100000 in
theorem c_X10_modulus (l : Launch) (G : va_G) (Y : Nat → ClassId) (tF sz : Nat) (h_t : Nat) (B_t : Nat → Nat) (B_t_twisting : Nat → Nat) (t_toldCount : Int32) (t_twisting_modulus : Int32) (t_twisting_values : Nat → Int32) (x1 : Int32) {K : Int32 → Int32 → (Nat → Int32) → Prop} (h : pX10_modulus t_twisting_modulus t_twisting_values x1 K) : Met l yX10_modulus wsX10_modulus ({ frames := 2, cells := 0, slots := 0, locals := 43 }) (PcM G Y tF sz (w_X10_modulus Y h_t B_t B_t_twisting t_toldCount t_twisting_modulus t_twisting_values) [.ref h_t, .int x1]) (va_Qi (fun (r : Int32) (u : Int32 × (Nat → Int32)) => K r u.1 u.2) (fun u t => BM G Y (va_A (w_X10_modulus Y h_t B_t B_t_twisting t_toldCount t_twisting_modulus t_twisting_values) sz) (w_X10_modulus Y h_t B_t B_t_twisting t_toldCount u.1 u.2) t) (va_A (w_X10_modulus Y h_t B_t B_t_twisting t_toldCount t_twisting_modulus t_twisting_values) sz)) 0 0 (va_A (w_X10_modulus Y h_t B_t B_t_twisting t_toldCount t_twisting_modulus t_twisting_values) sz) := by
  refine Met.ofW (cc := cX10_modulus) (maxL := 2) (ret := (some .boolean)) (by decide +kernel) rfl ?_
  intro p e s m args below meth c s₁ B hml hv
  obtain ⟨rfl, hsz, hP, hK, hD0, hE⟩ := hv
  have hts := atoms_spec (ws := wsX10_modulus) B.pre
  have hown : s.vm.findClass RX10 = some m.cls := findClass_of_methodNamed B.named
  have hlocks := B.notSynchronized
  subst hsz
  have hD := hD0.self (sz := s.heap.size)
  exact wk_X10_modulus h_t B_t B_t_twisting t_toldCount t_twisting_modulus t_twisting_values x1 B.exec B.bytes hml hown hts hK hE (fun q h => Or.inr h) (Nat.le_refl _) (Nat.le_refl _) (fun r t_twisting_modulus t_twisting_values H locs ls pc hP hD hS hz hk hd => W.zret (v := r) B.exec B.bytes B.returns hz.n (fun t ht hW => ⟨⟨r, (t_twisting_modulus, t_twisting_values), rfl, hk, by rw [ht]; exact hP, va_K.moved hW.alike hK, hD⟩, hS.F ht⟩) hS.2.2 hd) hP hD h

abbrev w_X10_twist (Y : Nat → ClassId) (h_t : Nat) (B_t : Nat → Nat) (B_t_current : Nat → Nat) (B_t_twisting : Nat → Nat) (t_toldCount : Int32) (t_current_n : Int32) (t_twisting_modulus : Int32) (t_twisting_values : Nat → Int32) : va_W := [(h_t, .inr (9, [.ref (B_t 0), .ref (B_t 1), .ref (B_t 2), .ref (B_t 3), .ref (B_t 4), .ref (B_t 5), .ref (B_t 6), .ref (B_t 7), .ref (B_t 8), .ref (B_t 9), .ref (B_t 10), .ref (B_t 11), .ref (B_t 12), .ref (B_t 13), .int t_toldCount])), ((B_t 0), .inr (6, [.ref (B_t_current 0), .int t_current_n])), ((B_t 4), .inr (8, [.ref (B_t_twisting 0), .int t_twisting_modulus])), ((B_t_twisting 0), .inl (Y 0, 64, .inl t_twisting_values))]

set_option maxHeartbeats 4000000 in
set_option maxRecDepth 100000 in
theorem wk_X10_twist {p : Program} {l : Launch} {e : Env} {R : Room} {s : State} {m : MethodId} {args : Array Value} {below : List Frame} {meth : Method} {c : Code} {Q : State → Prop} {G : va_G} {Y : Nat → ClassId} {tF : Nat} {A : Nat → Prop} (h_t : Nat) (B_t : Nat → Nat) (B_t_current : Nat → Nat) (B_t_twisting : Nat → Nat) (t_toldCount : Int32) (t_current_n : Int32) (t_twisting_modulus : Int32) (t_twisting_values : Nat → Int32) (x1 : Int32) (x2 : Int32) (x3 : Int32) {K : Int32 → (Nat → Int32) → Prop} (hx : p.tables.exec = Jvm.exec) (hb : c.code = cX10_twist) (hml : c.maxLocals = 4) (hown : s.vm.findClass RX10 = some m.cls) (hts : ∀ w ∈ wsX10_twist, w.before args s = true) (hK : va_K G vwCl (tyL Y) s) (hE : Ev A tF s) (hA : ∀ q, s.heap.size ≤ q → A q) (hRf : 1 ≤ R.frames) (hRl : 23 ≤ R.locals) (hret : ∀ (r : Int32) (t_twisting_values : Nat → Int32) (H : Heap) (locs : List Loc) (ls : Array Slot) (pc : Nat), va_P G vwCl (w_X10_twist Y h_t B_t B_t_current B_t_twisting t_toldCount t_current_n t_twisting_modulus t_twisting_values) H → va_D A (w_X10_twist Y h_t B_t B_t_current B_t_twisting t_toldCount t_current_n t_twisting_modulus t_twisting_values) → va_S A s.heap H locs → zb r → K r t_twisting_values → decode cX10_twist pc = .ok (.ireturn, 1) → W p l e R s m args below meth c H locs 0 0 Q (F0 m pc ls [.int r])) (hP : va_P G vwCl (w_X10_twist Y h_t B_t B_t_current B_t_twisting t_toldCount t_current_n t_twisting_modulus t_twisting_values) s.heap) (hD : va_D A (w_X10_twist Y h_t B_t B_t_current B_t_twisting t_toldCount t_current_n t_twisting_modulus t_twisting_values)) (h : pX10_twist t_current_n t_twisting_modulus t_twisting_values x1 x2 x3 K) : W p l e R s m args below meth c s.heap [] 0 0 Q (entryFrame m ([.ref h_t, .int x1, .int x2, .int x3] : List Value).toArray 4) := by
  have inX10 : ∀ w ∈ u_ws RX10 TX10 15, w ∈ wsX10_twist := by decide +kernel
  have inX9 : ∀ w ∈ u_ws RX9 TX9 2, w ∈ wsX10_twist := by decide +kernel
  have hf14 := hts (.fieldLink RX10 14 "RackBench" "current" "LRackBench$Table;") (by decide +kernel)
  have hf31 := hts (.fieldLink RX10 31 "RackBench" "twisting" "LRackBench$Twist;") (by decide +kernel)
  have hl := lv_entry ([.ref h_t, .int x1, .int x2, .int x3]) (n := 4) (Nat.le_of_ble_eq_true rfl)
  rw [lg_entry_eq]
  generalize (lg_sl ([.ref h_t, .int x1, .int x2, .int x3]) ++ List.replicate (4 - (lg_sl ([.ref h_t, .int x1, .int x2, .int x3])).length) Slot.unset).toArray = ls at hl ⊢
  have hl : lv_has ls 4 [(0, .ref h_t), (1, .int x1), (2, .int x2), (3, .int x3)] := hl
  generalize hH0 : s.heap = H at hP ⊢
  have hS : va_S A s.heap H [] := by rw [← hH0]; exact va_S.rf
  clear hH0
  generalize ([] : List Loc) = locs at hS ⊢
  refine lv_aload_n hx hb dX10_twist_0 rfl (lv_at hl 0 rfl) ?_
  refine va_get (D := G) (ci := 9) (v := .ref (B_t 0)) (C := RX10) (T := TX10) (N := 15) hx hb hts inX10 hown hK hP 0 rfl rfl 0 (by decide) hf14 (fun _ h9 => h9) rfl dX10_twist_1 ?_
  refine lv_iload_n hx hb dX10_twist_4 rfl (lv_at hl 1 rfl) ?_
  refine mc_iV ⟨hx, hb, hml, hown, hts⟩ hK hE hA hP hD hS (c_X7_has l G Y tF H.size (B_t 0) B_t_current t_current_n x1 h) (cwV 1 hts gX10_twist_X7_has rfl rfl rfl (by decide +kernel) ⟨Nat.le_trans (by decide) hRf, Nat.le_trans (by decide) hRl⟩) (fun u => (w_X10_twist Y h_t B_t B_t_current B_t_twisting t_toldCount t_current_n t_twisting_modulus t_twisting_values)) [1] [0, 2, 3] [0, 3, 1, 2] rfl rfl rfl rfl (by decide) (fun _ => rfl) rfl 1 6 rfl rfl rfl rfl hl.1 rfl (Nat.le_of_ble_eq_true rfl) dX10_twist_5 (fun r5 u H locs h hP hD hS => ?_)
  try dsimp only at h
  have hP : va_P G vwCl (w_X10_twist Y h_t B_t B_t_current B_t_twisting t_toldCount t_current_n t_twisting_modulus t_twisting_values) H := hP
  have hD : va_D A (w_X10_twist Y h_t B_t B_t_current B_t_twisting t_toldCount t_current_n t_twisting_modulus t_twisting_values) := hD
  obtain ⟨ht, hf⟩ := h
  refine lv_if_eq (tgt := 37) hx hb dX10_twist_8 (by decide) (fun c9 => ?_) (fun c9 => ?_)
  · have h := ht c9
    refine lv_iconst (v := 0) hx hb dX10_twist_37 (by decide) ?_
    obtain ⟨hz, h⟩ := h
    exact hret (0 : Int32) t_twisting_values H locs ls _ hP hD hS hz h dX10_twist_38
  · have h := hf c9
    refine lv_aload_n hx hb dX10_twist_11 rfl (lv_at hl 0 rfl) ?_
    refine va_get (D := G) (ci := 9) (v := .ref (B_t 0)) (C := RX10) (T := TX10) (N := 15) hx hb hts inX10 hown hK hP 0 rfl rfl 0 (by decide) hf14 (fun _ h9 => h9) rfl dX10_twist_12 ?_
    refine lv_iload_n hx hb dX10_twist_15 rfl (lv_at hl 2 rfl) ?_
    refine mc_iV ⟨hx, hb, hml, hown, hts⟩ hK hE hA hP hD hS (c_X7_has l G Y tF H.size (B_t 0) B_t_current t_current_n x2 h) (cwV 1 hts gX10_twist_X7_has rfl rfl rfl (by decide +kernel) ⟨Nat.le_trans (by decide) hRf, Nat.le_trans (by decide) hRl⟩) (fun u => (w_X10_twist Y h_t B_t B_t_current B_t_twisting t_toldCount t_current_n t_twisting_modulus t_twisting_values)) [1] [0, 2, 3] [0, 3, 1, 2] rfl rfl rfl rfl (by decide) (fun _ => rfl) rfl 1 6 rfl rfl rfl rfl hl.1 rfl (Nat.le_of_ble_eq_true rfl) dX10_twist_16 (fun r16 u H locs h hP hD hS => ?_)
    try dsimp only at h
    have hP : va_P G vwCl (w_X10_twist Y h_t B_t B_t_current B_t_twisting t_toldCount t_current_n t_twisting_modulus t_twisting_values) H := hP
    have hD : va_D A (w_X10_twist Y h_t B_t B_t_current B_t_twisting t_toldCount t_current_n t_twisting_modulus t_twisting_values) := hD
    obtain ⟨ht, hf⟩ := h
    refine lv_if_eq (tgt := 37) hx hb dX10_twist_19 (by decide) (fun c9 => ?_) (fun c9 => ?_)
    · have h := ht c9
      refine lv_iconst (v := 0) hx hb dX10_twist_37 (by decide) ?_
      obtain ⟨hz, h⟩ := h
      exact hret (0 : Int32) t_twisting_values H locs ls _ hP hD hS hz h dX10_twist_38
    · have h := hf c9
      refine lv_iload_n hx hb dX10_twist_22 rfl (lv_at hl 3 rfl) ?_
      obtain ⟨ht, hf⟩ := h
      refine lv_if_lt (tgt := 37) hx hb dX10_twist_23 (by decide) (fun c9 => ?_) (fun c9 => ?_)
      · have h := ht c9
        refine lv_iconst (v := 0) hx hb dX10_twist_37 (by decide) ?_
        obtain ⟨hz, h⟩ := h
        exact hret (0 : Int32) t_twisting_values H locs ls _ hP hD hS hz h dX10_twist_38
      · have h := hf c9
        refine lv_iload_n hx hb dX10_twist_26 rfl (lv_at hl 3 rfl) ?_
        refine lv_aload_n hx hb dX10_twist_27 rfl (lv_at hl 0 rfl) ?_
        refine va_get (D := G) (ci := 9) (v := .ref (B_t 4)) (C := RX10) (T := TX10) (N := 15) hx hb hts inX10 hown hK hP 0 rfl rfl 4 (by decide) hf31 (fun _ h9 => h9) rfl dX10_twist_28 ?_
        refine va_getN (D := G) (ci := 8) (v := .int t_twisting_modulus) (C := RX9) (T := TX9) (N := 2) hx hb hts inX9 hown hK hP 2 rfl rfl 1 (by decide) (hE.nest args 1 _ rfl) (fun _ h9 => h9) rfl dX10_twist_31 ?_
        obtain ⟨ht, hf⟩ := h
        refine lv_icmp_lt (tgt := 39) hx hb dX10_twist_34 (by decide) (fun c9 => ?_) (fun c9 => ?_)
        · have h := ht c9
          refine lv_aload_n hx hb dX10_twist_39 rfl (lv_at hl 0 rfl) ?_
          refine va_get (D := G) (ci := 9) (v := .ref (B_t 4)) (C := RX10) (T := TX10) (N := 15) hx hb hts inX10 hown hK hP 0 rfl rfl 4 (by decide) hf31 (fun _ h9 => h9) rfl dX10_twist_40 ?_
          refine lv_iload_n hx hb dX10_twist_43 rfl (lv_at hl 1 rfl) ?_
          refine lv_iload_n hx hb dX10_twist_44 rfl (lv_at hl 2 rfl) ?_
          refine lv_iload_n hx hb dX10_twist_45 rfl (lv_at hl 3 rfl) ?_
          refine mc_vV ⟨hx, hb, hml, hown, hts⟩ hK hE hA hP hD hS (c_X9_put l G Y tF H.size (B_t 4) B_t_twisting t_twisting_modulus t_twisting_values x1 x2 x3 h) (cwV 3 hts gX10_twist_X9_put rfl rfl rfl (by decide +kernel) ⟨Nat.le_trans (by decide) hRf, Nat.le_trans (by decide) hRl⟩) (fun u => (w_X10_twist Y h_t B_t B_t_current B_t_twisting t_toldCount t_current_n t_twisting_modulus u)) [2, 3] [0, 1] [0, 1, 2, 3] rfl rfl rfl rfl (by decide) (fun _ => rfl) rfl 2 8 rfl rfl rfl rfl hl.1 rfl (Nat.le_of_ble_eq_true rfl) dX10_twist_46 (fun u H locs h hP hD hS => ?_)
          obtain ⟨t_twisting_values_46, rfl⟩ : ∃ z, z = u := ⟨_, rfl⟩
          try dsimp only at h
          have hP : va_P G vwCl (w_X10_twist Y h_t B_t B_t_current B_t_twisting t_toldCount t_current_n t_twisting_modulus t_twisting_values_46) H := hP
          have hD : va_D A (w_X10_twist Y h_t B_t B_t_current B_t_twisting t_toldCount t_current_n t_twisting_modulus t_twisting_values_46) := hD
          refine lv_iconst (v := 1) hx hb dX10_twist_49 (by decide) ?_
          obtain ⟨hz, h⟩ := h
          exact hret (1 : Int32) t_twisting_values_46 H locs ls _ hP hD hS hz h dX10_twist_50
        · have h := hf c9
          refine lv_iconst (v := 0) hx hb dX10_twist_37 (by decide) ?_
          obtain ⟨hz, h⟩ := h
          exact hret (0 : Int32) t_twisting_values H locs ls _ hP hD hS hz h dX10_twist_38

set_option maxHeartbeats 4000000 in
set_option maxRecDepth 100000 in
theorem c_X10_twist (l : Launch) (G : va_G) (Y : Nat → ClassId) (tF sz : Nat) (h_t : Nat) (B_t : Nat → Nat) (B_t_current : Nat → Nat) (B_t_twisting : Nat → Nat) (t_toldCount : Int32) (t_current_n : Int32) (t_twisting_modulus : Int32) (t_twisting_values : Nat → Int32) (x1 : Int32) (x2 : Int32) (x3 : Int32) {K : Int32 → (Nat → Int32) → Prop} (h : pX10_twist t_current_n t_twisting_modulus t_twisting_values x1 x2 x3 K) : Met l yX10_twist wsX10_twist ({ frames := 1, cells := 0, slots := 0, locals := 23 }) (PcM G Y tF sz (w_X10_twist Y h_t B_t B_t_current B_t_twisting t_toldCount t_current_n t_twisting_modulus t_twisting_values) [.ref h_t, .int x1, .int x2, .int x3]) (va_Qi (fun (r : Int32) (u : (Nat → Int32)) => K r u) (fun u t => BM G Y (va_A (w_X10_twist Y h_t B_t B_t_current B_t_twisting t_toldCount t_current_n t_twisting_modulus t_twisting_values) sz) (w_X10_twist Y h_t B_t B_t_current B_t_twisting t_toldCount t_current_n t_twisting_modulus u) t) (va_A (w_X10_twist Y h_t B_t B_t_current B_t_twisting t_toldCount t_current_n t_twisting_modulus t_twisting_values) sz)) 0 0 (va_A (w_X10_twist Y h_t B_t B_t_current B_t_twisting t_toldCount t_current_n t_twisting_modulus t_twisting_values) sz) := by
  refine Met.ofW (cc := cX10_twist) (maxL := 4) (ret := (some .boolean)) (by decide +kernel) rfl ?_
  intro p e s m args below meth c s₁ B hml hv
  obtain ⟨rfl, hsz, hP, hK, hD0, hE⟩ := hv
  have hts := atoms_spec (ws := wsX10_twist) B.pre
  have hown : s.vm.findClass RX10 = some m.cls := findClass_of_methodNamed B.named
  have hlocks := B.notSynchronized
  subst hsz
  have hD := hD0.self (sz := s.heap.size)
  exact wk_X10_twist h_t B_t B_t_current B_t_twisting t_toldCount t_current_n t_twisting_modulus t_twisting_values x1 x2 x3 B.exec B.bytes hml hown hts hK hE (fun q h => Or.inr h) (Nat.le_refl _) (Nat.le_refl _) (fun r t_twisting_values H locs ls pc hP hD hS hz hk hd => W.zret (v := r) B.exec B.bytes B.returns hz.n (fun t ht hW => ⟨⟨r, t_twisting_values, rfl, hk, by rw [ht]; exact hP, va_K.moved hW.alike hK, hD⟩, hS.F ht⟩) hS.2.2 hd) hP hD h

abbrev w_X10_twisted (Y : Nat → ClassId) (h_t : Nat) (B_t : Nat → Nat) (B_t_current : Nat → Nat) (B_t_twisting : Nat → Nat) (t_toldCount : Int32) (t_current_n : Int32) (t_twisting_modulus : Int32) (t_twisting_values : Nat → Int32) : va_W := [(h_t, .inr (9, [.ref (B_t 0), .ref (B_t 1), .ref (B_t 2), .ref (B_t 3), .ref (B_t 4), .ref (B_t 5), .ref (B_t 6), .ref (B_t 7), .ref (B_t 8), .ref (B_t 9), .ref (B_t 10), .ref (B_t 11), .ref (B_t 12), .ref (B_t 13), .int t_toldCount])), ((B_t 0), .inr (6, [.ref (B_t_current 0), .int t_current_n])), ((B_t 4), .inr (8, [.ref (B_t_twisting 0), .int t_twisting_modulus])), ((B_t_twisting 0), .inl (Y 0, 64, .inl t_twisting_values))]

set_option maxHeartbeats 4000000 in
set_option maxRecDepth 100000 in
theorem wk_X10_twisted {p : Program} {l : Launch} {e : Env} {R : Room} {s : State} {m : MethodId} {args : Array Value} {below : List Frame} {meth : Method} {c : Code} {Q : State → Prop} {G : va_G} {Y : Nat → ClassId} {tF : Nat} {A : Nat → Prop} (h_t : Nat) (B_t : Nat → Nat) (B_t_current : Nat → Nat) (B_t_twisting : Nat → Nat) (t_toldCount : Int32) (t_current_n : Int32) (t_twisting_modulus : Int32) (t_twisting_values : Nat → Int32) (x1 : Int32) (x2 : Int32) {K : Int32 → Prop} (hx : p.tables.exec = Jvm.exec) (hb : c.code = cX10_twisted) (hml : c.maxLocals = 3) (hown : s.vm.findClass RX10 = some m.cls) (hts : ∀ w ∈ wsX10_twisted, w.before args s = true) (hK : va_K G vwCl (tyL Y) s) (hE : Ev A tF s) (hA : ∀ q, s.heap.size ≤ q → A q) (hRf : 1 ≤ R.frames) (hRl : 22 ≤ R.locals) (hret : ∀ (r : Int32)  (H : Heap) (locs : List Loc) (ls : Array Slot) (pc : Nat), va_P G vwCl (w_X10_twisted Y h_t B_t B_t_current B_t_twisting t_toldCount t_current_n t_twisting_modulus t_twisting_values) H → va_D A (w_X10_twisted Y h_t B_t B_t_current B_t_twisting t_toldCount t_current_n t_twisting_modulus t_twisting_values) → va_S A s.heap H locs → K r → decode cX10_twisted pc = .ok (.ireturn, 1) → W p l e R s m args below meth c H locs 0 0 Q (F0 m pc ls [.int r])) (hP : va_P G vwCl (w_X10_twisted Y h_t B_t B_t_current B_t_twisting t_toldCount t_current_n t_twisting_modulus t_twisting_values) s.heap) (hD : va_D A (w_X10_twisted Y h_t B_t B_t_current B_t_twisting t_toldCount t_current_n t_twisting_modulus t_twisting_values)) (h : pX10_twisted t_current_n t_twisting_values x1 x2 K) : W p l e R s m args below meth c s.heap [] 0 0 Q (entryFrame m ([.ref h_t, .int x1, .int x2] : List Value).toArray 3) := by
  have inX10 : ∀ w ∈ u_ws RX10 TX10 15, w ∈ wsX10_twisted := by decide +kernel
  have hf14 := hts (.fieldLink RX10 14 "RackBench" "current" "LRackBench$Table;") (by decide +kernel)
  have hf31 := hts (.fieldLink RX10 31 "RackBench" "twisting" "LRackBench$Twist;") (by decide +kernel)
  have hl := lv_entry ([.ref h_t, .int x1, .int x2]) (n := 3) (Nat.le_of_ble_eq_true rfl)
  rw [lg_entry_eq]
  generalize (lg_sl ([.ref h_t, .int x1, .int x2]) ++ List.replicate (3 - (lg_sl ([.ref h_t, .int x1, .int x2])).length) Slot.unset).toArray = ls at hl ⊢
  have hl : lv_has ls 3 [(0, .ref h_t), (1, .int x1), (2, .int x2)] := hl
  generalize hH0 : s.heap = H at hP ⊢
  have hS : va_S A s.heap H [] := by rw [← hH0]; exact va_S.rf
  clear hH0
  generalize ([] : List Loc) = locs at hS ⊢
  have J34 : ∀  (H : Heap) (locs : List Loc) (ls : Array Slot), pX10_twisted_34 t_current_n t_twisting_values K → va_P G vwCl (w_X10_twisted Y h_t B_t B_t_current B_t_twisting t_toldCount t_current_n t_twisting_modulus t_twisting_values) H → va_D A (w_X10_twisted Y h_t B_t B_t_current B_t_twisting t_toldCount t_current_n t_twisting_modulus t_twisting_values) → va_S A s.heap H locs → lv_has ls 3 [] → W p l e R s m args below meth c H locs 0 0 Q (F0 m 34 ls []) := by
    intro  H locs ls h hP hD hS hl
    refine lv_iconst (v := -1) hx hb dX10_twisted_34 (by decide) ?_
    exact hret (-1 : Int32)  H locs ls _ hP hD hS h dX10_twisted_35
  refine lv_aload_n hx hb dX10_twisted_0 rfl (lv_at hl 0 rfl) ?_
  refine va_get (D := G) (ci := 9) (v := .ref (B_t 0)) (C := RX10) (T := TX10) (N := 15) hx hb hts inX10 hown hK hP 0 rfl rfl 0 (by decide) hf14 (fun _ h9 => h9) rfl dX10_twisted_1 ?_
  refine lv_iload_n hx hb dX10_twisted_4 rfl (lv_at hl 1 rfl) ?_
  refine mc_iV ⟨hx, hb, hml, hown, hts⟩ hK hE hA hP hD hS (c_X7_has l G Y tF H.size (B_t 0) B_t_current t_current_n x1 h) (cwV 1 hts gX10_twisted_X7_has rfl rfl rfl (by decide +kernel) ⟨Nat.le_trans (by decide) hRf, Nat.le_trans (by decide) hRl⟩) (fun u => (w_X10_twisted Y h_t B_t B_t_current B_t_twisting t_toldCount t_current_n t_twisting_modulus t_twisting_values)) [1] [0, 2, 3] [0, 3, 1, 2] rfl rfl rfl rfl (by decide) (fun _ => rfl) rfl 1 6 rfl rfl rfl rfl hl.1 rfl (Nat.le_of_ble_eq_true rfl) dX10_twisted_5 (fun r5 u H locs h hP hD hS => ?_)
  try dsimp only at h
  have hP : va_P G vwCl (w_X10_twisted Y h_t B_t B_t_current B_t_twisting t_toldCount t_current_n t_twisting_modulus t_twisting_values) H := hP
  have hD : va_D A (w_X10_twisted Y h_t B_t B_t_current B_t_twisting t_toldCount t_current_n t_twisting_modulus t_twisting_values) := hD
  obtain ⟨ht, hf⟩ := h
  refine lv_if_eq (tgt := 34) hx hb dX10_twisted_8 (by decide) (fun c9 => ?_) (fun c9 => ?_)
  · have h := ht c9
    exact J34  H locs ls h hP hD hS (lv_sub hl [] rfl)
  · have h := hf c9
    refine lv_aload_n hx hb dX10_twisted_11 rfl (lv_at hl 0 rfl) ?_
    refine va_get (D := G) (ci := 9) (v := .ref (B_t 0)) (C := RX10) (T := TX10) (N := 15) hx hb hts inX10 hown hK hP 0 rfl rfl 0 (by decide) hf14 (fun _ h9 => h9) rfl dX10_twisted_12 ?_
    refine lv_iload_n hx hb dX10_twisted_15 rfl (lv_at hl 2 rfl) ?_
    refine mc_iV ⟨hx, hb, hml, hown, hts⟩ hK hE hA hP hD hS (c_X7_has l G Y tF H.size (B_t 0) B_t_current t_current_n x2 h) (cwV 1 hts gX10_twisted_X7_has rfl rfl rfl (by decide +kernel) ⟨Nat.le_trans (by decide) hRf, Nat.le_trans (by decide) hRl⟩) (fun u => (w_X10_twisted Y h_t B_t B_t_current B_t_twisting t_toldCount t_current_n t_twisting_modulus t_twisting_values)) [1] [0, 2, 3] [0, 3, 1, 2] rfl rfl rfl rfl (by decide) (fun _ => rfl) rfl 1 6 rfl rfl rfl rfl hl.1 rfl (Nat.le_of_ble_eq_true rfl) dX10_twisted_16 (fun r16 u H locs h hP hD hS => ?_)
    try dsimp only at h
    have hP : va_P G vwCl (w_X10_twisted Y h_t B_t B_t_current B_t_twisting t_toldCount t_current_n t_twisting_modulus t_twisting_values) H := hP
    have hD : va_D A (w_X10_twisted Y h_t B_t B_t_current B_t_twisting t_toldCount t_current_n t_twisting_modulus t_twisting_values) := hD
    obtain ⟨ht, hf⟩ := h
    refine lv_if_eq (tgt := 34) hx hb dX10_twisted_19 (by decide) (fun c9 => ?_) (fun c9 => ?_)
    · have h := ht c9
      exact J34  H locs ls h hP hD hS (lv_sub hl [] rfl)
    · have h := hf c9
      refine lv_aload_n hx hb dX10_twisted_22 rfl (lv_at hl 0 rfl) ?_
      refine va_get (D := G) (ci := 9) (v := .ref (B_t 4)) (C := RX10) (T := TX10) (N := 15) hx hb hts inX10 hown hK hP 0 rfl rfl 4 (by decide) hf31 (fun _ h9 => h9) rfl dX10_twisted_23 ?_
      refine lv_iload_n hx hb dX10_twisted_26 rfl (lv_at hl 1 rfl) ?_
      refine lv_iload_n hx hb dX10_twisted_27 rfl (lv_at hl 2 rfl) ?_
      refine mc_iV ⟨hx, hb, hml, hown, hts⟩ hK hE hA hP hD hS (c_X9_value l G Y tF H.size (B_t 4) B_t_twisting t_twisting_modulus t_twisting_values x1 x2 h) (cwV 2 hts gX10_twisted_X9_value rfl rfl rfl (by decide +kernel) ⟨Nat.le_trans (by decide) hRf, Nat.le_trans (by decide) hRl⟩) (fun u => (w_X10_twisted Y h_t B_t B_t_current B_t_twisting t_toldCount t_current_n t_twisting_modulus t_twisting_values)) [2, 3] [0, 1] [0, 1, 2, 3] rfl rfl rfl rfl (by decide) (fun _ => rfl) rfl 2 8 rfl rfl rfl rfl hl.1 rfl (Nat.le_of_ble_eq_true rfl) dX10_twisted_28 (fun r28 u H locs h hP hD hS => ?_)
      try dsimp only at h
      have hP : va_P G vwCl (w_X10_twisted Y h_t B_t B_t_current B_t_twisting t_toldCount t_current_n t_twisting_modulus t_twisting_values) H := hP
      have hD : va_D A (w_X10_twisted Y h_t B_t B_t_current B_t_twisting t_toldCount t_current_n t_twisting_modulus t_twisting_values) := hD
      refine lv_goto (tgt := 35) hx hb dX10_twisted_31 (by decide) ?_
      exact hret r28  H locs ls _ hP hD hS h dX10_twisted_35

set_option maxHeartbeats 4000000 in
set_option maxRecDepth 100000 in
theorem c_X10_twisted (l : Launch) (G : va_G) (Y : Nat → ClassId) (tF sz : Nat) (h_t : Nat) (B_t : Nat → Nat) (B_t_current : Nat → Nat) (B_t_twisting : Nat → Nat) (t_toldCount : Int32) (t_current_n : Int32) (t_twisting_modulus : Int32) (t_twisting_values : Nat → Int32) (x1 : Int32) (x2 : Int32) {K : Int32 → Prop} (h : pX10_twisted t_current_n t_twisting_values x1 x2 K) : Met l yX10_twisted wsX10_twisted ({ frames := 1, cells := 0, slots := 0, locals := 22 }) (PcM G Y tF sz (w_X10_twisted Y h_t B_t B_t_current B_t_twisting t_toldCount t_current_n t_twisting_modulus t_twisting_values) [.ref h_t, .int x1, .int x2]) (va_Qi (fun (r : Int32) (u : Unit) => K r ) (fun u t => BM G Y (va_A (w_X10_twisted Y h_t B_t B_t_current B_t_twisting t_toldCount t_current_n t_twisting_modulus t_twisting_values) sz) (w_X10_twisted Y h_t B_t B_t_current B_t_twisting t_toldCount t_current_n t_twisting_modulus t_twisting_values) t) (va_A (w_X10_twisted Y h_t B_t B_t_current B_t_twisting t_toldCount t_current_n t_twisting_modulus t_twisting_values) sz)) 0 0 (va_A (w_X10_twisted Y h_t B_t B_t_current B_t_twisting t_toldCount t_current_n t_twisting_modulus t_twisting_values) sz) := by
  refine Met.ofW (cc := cX10_twisted) (maxL := 3) (ret := (some .int)) (by decide +kernel) rfl ?_
  intro p e s m args below meth c s₁ B hml hv
  obtain ⟨rfl, hsz, hP, hK, hD0, hE⟩ := hv
  have hts := atoms_spec (ws := wsX10_twisted) B.pre
  have hown : s.vm.findClass RX10 = some m.cls := findClass_of_methodNamed B.named
  have hlocks := B.notSynchronized
  subst hsz
  have hD := hD0.self (sz := s.heap.size)
  exact wk_X10_twisted h_t B_t B_t_current B_t_twisting t_toldCount t_current_n t_twisting_modulus t_twisting_values x1 x2 B.exec B.bytes hml hown hts hK hE (fun q h => Or.inr h) (Nat.le_refl _) (Nat.le_refl _) (fun r  H locs ls pc hP hD hS hk hd => W.iret (v := r) B.exec B.bytes B.returns (fun t ht hW => ⟨⟨r, (), rfl, hk, by rw [ht]; exact hP, va_K.moved hW.alike hK, hD⟩, hS.F ht⟩) hS.2.2 hd) hP hD h

abbrev w_X10_closed (Y : Nat → ClassId) (h_t : Nat) (B_t : Nat → Nat) (B_t_current : Nat → Nat) (B_t_twisting : Nat → Nat) (t_toldCount : Int32) (t_current_n : Int32) (t_current_cells : Nat → Int32) (t_told : Nat → Int32) (t_twisting_modulus : Int32) (t_twisting_values : Nat → Int32) : va_W := [(h_t, .inr (9, [.ref (B_t 0), .ref (B_t 1), .ref (B_t 2), .ref (B_t 3), .ref (B_t 4), .ref (B_t 5), .ref (B_t 6), .ref (B_t 7), .ref (B_t 8), .ref (B_t 9), .ref (B_t 10), .ref (B_t 11), .ref (B_t 12), .ref (B_t 13), .int t_toldCount])), ((B_t 0), .inr (6, [.ref (B_t_current 0), .int t_current_n])), ((B_t_current 0), .inl (Y 0, 64, .inl t_current_cells)), ((B_t 13), .inl (Y 0, 8, .inl t_told)), ((B_t 4), .inr (8, [.ref (B_t_twisting 0), .int t_twisting_modulus])), ((B_t_twisting 0), .inl (Y 0, 64, .inl t_twisting_values))]

set_option maxHeartbeats 4000000 in
set_option maxRecDepth 100000 in
theorem wk_X10_closed {p : Program} {l : Launch} {e : Env} {R : Room} {s : State} {m : MethodId} {args : Array Value} {below : List Frame} {meth : Method} {c : Code} {Q : State → Prop} {G : va_G} {Y : Nat → ClassId} {tF : Nat} {A : Nat → Prop} (h_t : Nat) (B_t : Nat → Nat) (B_t_current : Nat → Nat) (B_t_twisting : Nat → Nat) (t_toldCount : Int32) (t_current_n : Int32) (t_current_cells : Nat → Int32) (t_told : Nat → Int32) (t_twisting_modulus : Int32) (t_twisting_values : Nat → Int32) {K : Int32 → Int32 → (Nat → Int32) → Prop} (hx : p.tables.exec = Jvm.exec) (hb : c.code = cX10_closed) (hml : c.maxLocals = 2) (hown : s.vm.findClass RX10 = some m.cls) (hts : ∀ w ∈ wsX10_closed, w.before args s = true) (hK : va_K G vwCl (tyL Y) s) (hE : Ev A tF s) (hA : ∀ q, s.heap.size ≤ q → A q) (hRf : 3 ≤ R.frames) (hRl : 66 ≤ R.locals) (hret : ∀ (r : Int32) (t_toldCount : Int32) (t_told : Nat → Int32) (H : Heap) (locs : List Loc) (ls : Array Slot) (pc : Nat), va_P G vwCl (w_X10_closed Y h_t B_t B_t_current B_t_twisting t_toldCount t_current_n t_current_cells t_told t_twisting_modulus t_twisting_values) H → va_D A (w_X10_closed Y h_t B_t B_t_current B_t_twisting t_toldCount t_current_n t_current_cells t_told t_twisting_modulus t_twisting_values) → va_S A s.heap H locs → K r t_toldCount t_told → decode cX10_closed pc = .ok (.ireturn, 1) → W p l e R s m args below meth c H locs 0 0 Q (F0 m pc ls [.int r])) (hP : va_P G vwCl (w_X10_closed Y h_t B_t B_t_current B_t_twisting t_toldCount t_current_n t_current_cells t_told t_twisting_modulus t_twisting_values) s.heap) (hD : va_D A (w_X10_closed Y h_t B_t B_t_current B_t_twisting t_toldCount t_current_n t_current_cells t_told t_twisting_modulus t_twisting_values)) (h : pX10_closed t_toldCount t_current_n t_current_cells t_told t_twisting_modulus t_twisting_values K) : W p l e R s m args below meth c s.heap [] 0 0 Q (entryFrame m ([.ref h_t] : List Value).toArray 2) := by
  have inX10 : ∀ w ∈ u_ws RX10 TX10 15, w ∈ wsX10_closed := by decide +kernel
  have hf14 := hts (.fieldLink RX10 14 "RackBench" "current" "LRackBench$Table;") (by decide +kernel)
  have hf31 := hts (.fieldLink RX10 31 "RackBench" "twisting" "LRackBench$Twist;") (by decide +kernel)
  have hl := lv_entry ([.ref h_t]) (n := 2) (Nat.le_of_ble_eq_true rfl)
  rw [lg_entry_eq]
  generalize (lg_sl ([.ref h_t]) ++ List.replicate (2 - (lg_sl ([.ref h_t])).length) Slot.unset).toArray = ls at hl ⊢
  have hl : lv_has ls 2 [(0, .ref h_t)] := hl
  generalize hH0 : s.heap = H at hP ⊢
  have hS : va_S A s.heap H [] := by rw [← hH0]; exact va_S.rf
  clear hH0
  generalize ([] : List Loc) = locs at hS ⊢
  refine lv_aload_n hx hb dX10_closed_0 rfl (lv_at hl 0 rfl) ?_
  refine va_get (D := G) (ci := 9) (v := .ref (B_t 0)) (C := RX10) (T := TX10) (N := 15) hx hb hts inX10 hown hK hP 0 rfl rfl 0 (by decide) hf14 (fun _ h9 => h9) rfl dX10_closed_1 ?_
  refine mc_iV ⟨hx, hb, hml, hown, hts⟩ hK hE hA hP hD hS (c_X7_isRack l G Y tF H.size (B_t 0) B_t_current t_current_n t_current_cells h) (cwV 0 hts gX10_closed_X7_isRack rfl rfl rfl (by decide +kernel) ⟨Nat.le_trans (by decide) hRf, Nat.le_trans (by decide) hRl⟩) (fun u => (w_X10_closed Y h_t B_t B_t_current B_t_twisting t_toldCount t_current_n t_current_cells t_told t_twisting_modulus t_twisting_values)) [1, 2] [0, 3, 4, 5] [0, 4, 5, 1, 2, 3] rfl rfl rfl rfl (by decide) (fun _ => rfl) rfl 1 6 rfl rfl rfl rfl hl.1 rfl (Nat.le_of_ble_eq_true rfl) dX10_closed_4 (fun r4 u H locs h hP hD hS => ?_)
  try dsimp only at h
  have hP : va_P G vwCl (w_X10_closed Y h_t B_t B_t_current B_t_twisting t_toldCount t_current_n t_current_cells t_told t_twisting_modulus t_twisting_values) H := hP
  have hD : va_D A (w_X10_closed Y h_t B_t B_t_current B_t_twisting t_toldCount t_current_n t_current_cells t_told t_twisting_modulus t_twisting_values) := hD
  obtain ⟨ht, hf⟩ := h
  refine lv_if_ne (tgt := 12) hx hb dX10_closed_7 (by decide) (fun c9 => ?_) (fun c9 => ?_)
  · have h := ht c9
    refine lv_aload_n hx hb dX10_closed_12 rfl (lv_at hl 0 rfl) ?_
    refine va_get (D := G) (ci := 9) (v := .ref (B_t 4)) (C := RX10) (T := TX10) (N := 15) hx hb hts inX10 hown hK hP 0 rfl rfl 4 (by decide) hf31 (fun _ h9 => h9) rfl dX10_closed_13 ?_
    refine lv_aload_n hx hb dX10_closed_16 rfl (lv_at hl 0 rfl) ?_
    refine va_get (D := G) (ci := 9) (v := .ref (B_t 0)) (C := RX10) (T := TX10) (N := 15) hx hb hts inX10 hown hK hP 0 rfl rfl 0 (by decide) hf14 (fun _ h9 => h9) rfl dX10_closed_17 ?_
    refine mc_iV ⟨hx, hb, hml, hown, hts⟩ hK hE hA hP hD hS (c_X9_firstOpenTriple l G Y tF H.size (B_t 4) (B_t 0) B_t_twisting B_t_current t_twisting_modulus t_twisting_values t_current_n t_current_cells h) (cwV 1 hts gX10_closed_X9_firstOpenTriple rfl rfl rfl (by decide +kernel) ⟨Nat.le_trans (by decide) hRf, Nat.le_trans (by decide) hRl⟩) (fun u => (w_X10_closed Y h_t B_t B_t_current B_t_twisting t_toldCount t_current_n t_current_cells t_told t_twisting_modulus t_twisting_values)) [4, 5, 1, 2] [0, 3] [0, 4, 5, 1, 2, 3] rfl rfl rfl rfl (by decide) (fun _ => rfl) rfl 4 8 rfl rfl rfl rfl hl.1 rfl (Nat.le_of_ble_eq_true rfl) dX10_closed_20 (fun r20 u H locs h hP hD hS => ?_)
    try dsimp only at h
    have hP : va_P G vwCl (w_X10_closed Y h_t B_t B_t_current B_t_twisting t_toldCount t_current_n t_current_cells t_told t_twisting_modulus t_twisting_values) H := hP
    have hD : va_D A (w_X10_closed Y h_t B_t B_t_current B_t_twisting t_toldCount t_current_n t_current_cells t_told t_twisting_modulus t_twisting_values) := hD
    refine lv_istore_n (lv' := [(1, .int r20), (0, .ref h_t)]) hx hb dX10_closed_23 rfl hl (by decide) rfl (fun ls hl => ?_)
    refine lv_iload_n hx hb dX10_closed_24 rfl (lv_at hl 0 rfl) ?_
    refine lv_iconst (v := -1) hx hb dX10_closed_25 (by decide) ?_
    obtain ⟨ht, hf⟩ := h
    refine lv_icmp_ne (tgt := 31) hx hb dX10_closed_26 (by decide) (fun c9 => ?_) (fun c9 => ?_)
    · have h := ht c9
      refine lv_aload_n hx hb dX10_closed_31 rfl (lv_at hl 1 rfl) ?_
      refine lv_iload_n hx hb dX10_closed_32 rfl (lv_at hl 0 rfl) ?_
      refine mc_vV ⟨hx, hb, hml, hown, hts⟩ hK hE hA hP hD hS (c_X10_tellTriple l G Y tF H.size h_t B_t t_toldCount t_told r20 h) (cwV 1 hts gX10_closed_X10_tellTriple rfl rfl rfl (by decide +kernel) ⟨Nat.le_trans (by decide) hRf, Nat.le_trans (by decide) hRl⟩) (fun u => (w_X10_closed Y h_t B_t B_t_current B_t_twisting u.1 t_current_n t_current_cells u.2 t_twisting_modulus t_twisting_values)) [0, 3] [1, 2, 4, 5] [4, 0, 1, 5, 2, 3] rfl rfl rfl rfl (by decide) (fun _ => rfl) rfl 0 9 rfl rfl rfl rfl hl.1 rfl (Nat.le_of_ble_eq_true rfl) dX10_closed_33 (fun u H locs h hP hD hS => ?_)
      obtain ⟨t_toldCount_33, t_told_33⟩ := u
      try dsimp only at h
      have hP : va_P G vwCl (w_X10_closed Y h_t B_t B_t_current B_t_twisting t_toldCount_33 t_current_n t_current_cells t_told_33 t_twisting_modulus t_twisting_values) H := hP
      have hD : va_D A (w_X10_closed Y h_t B_t B_t_current B_t_twisting t_toldCount_33 t_current_n t_current_cells t_told_33 t_twisting_modulus t_twisting_values) := hD
      refine lv_iconst (v := 1) hx hb dX10_closed_36 (by decide) ?_
      exact hret (1 : Int32) t_toldCount_33 t_told_33 H locs ls _ hP hD hS h dX10_closed_37
    · have h := hf c9
      refine lv_iconst (v := 0) hx hb dX10_closed_29 (by decide) ?_
      exact hret (0 : Int32) t_toldCount t_told H locs ls _ hP hD hS h dX10_closed_30
  · have h := hf c9
    refine lv_iconst (v := -1) hx hb dX10_closed_10 (by decide) ?_
    exact hret (-1 : Int32) t_toldCount t_told H locs ls _ hP hD hS h dX10_closed_11

set_option maxHeartbeats 4000000 in
set_option maxRecDepth 100000 in
theorem c_X10_closed (l : Launch) (G : va_G) (Y : Nat → ClassId) (tF sz : Nat) (h_t : Nat) (B_t : Nat → Nat) (B_t_current : Nat → Nat) (B_t_twisting : Nat → Nat) (t_toldCount : Int32) (t_current_n : Int32) (t_current_cells : Nat → Int32) (t_told : Nat → Int32) (t_twisting_modulus : Int32) (t_twisting_values : Nat → Int32) {K : Int32 → Int32 → (Nat → Int32) → Prop} (h : pX10_closed t_toldCount t_current_n t_current_cells t_told t_twisting_modulus t_twisting_values K) : Met l yX10_closed wsX10_closed ({ frames := 3, cells := 0, slots := 0, locals := 66 }) (PcM G Y tF sz (w_X10_closed Y h_t B_t B_t_current B_t_twisting t_toldCount t_current_n t_current_cells t_told t_twisting_modulus t_twisting_values) [.ref h_t]) (va_Qi (fun (r : Int32) (u : Int32 × (Nat → Int32)) => K r u.1 u.2) (fun u t => BM G Y (va_A (w_X10_closed Y h_t B_t B_t_current B_t_twisting t_toldCount t_current_n t_current_cells t_told t_twisting_modulus t_twisting_values) sz) (w_X10_closed Y h_t B_t B_t_current B_t_twisting u.1 t_current_n t_current_cells u.2 t_twisting_modulus t_twisting_values) t) (va_A (w_X10_closed Y h_t B_t B_t_current B_t_twisting t_toldCount t_current_n t_current_cells t_told t_twisting_modulus t_twisting_values) sz)) 0 0 (va_A (w_X10_closed Y h_t B_t B_t_current B_t_twisting t_toldCount t_current_n t_current_cells t_told t_twisting_modulus t_twisting_values) sz) := by
  refine Met.ofW (cc := cX10_closed) (maxL := 2) (ret := (some .int)) (by decide +kernel) rfl ?_
  intro p e s m args below meth c s₁ B hml hv
  obtain ⟨rfl, hsz, hP, hK, hD0, hE⟩ := hv
  have hts := atoms_spec (ws := wsX10_closed) B.pre
  have hown : s.vm.findClass RX10 = some m.cls := findClass_of_methodNamed B.named
  have hlocks := B.notSynchronized
  subst hsz
  have hD := hD0.self (sz := s.heap.size)
  exact wk_X10_closed h_t B_t B_t_current B_t_twisting t_toldCount t_current_n t_current_cells t_told t_twisting_modulus t_twisting_values B.exec B.bytes hml hown hts hK hE (fun q h => Or.inr h) (Nat.le_refl _) (Nat.le_refl _) (fun r t_toldCount t_told H locs ls pc hP hD hS hk hd => W.iret (v := r) B.exec B.bytes B.returns (fun t ht hW => ⟨⟨r, (t_toldCount, t_told), rfl, hk, by rw [ht]; exact hP, va_K.moved hW.alike hK, hD⟩, hS.F ht⟩) hS.2.2 hd) hP hD h

abbrev w_X10_cover (Y : Nat → ClassId) (h_t : Nat) (B_t : Nat → Nat) (B_t_current : Nat → Nat) (B_t_draft : Nat → Nat) (B_t_twisting : Nat → Nat) (t_toldCount : Int32) (t_current_n : Int32) (t_current_cells : Nat → Int32) (t_draft_n : Int32) (t_draft_cells : Nat → Int32) (t_twisting_modulus : Int32) (t_twisting_values : Nat → Int32) : va_W := [(h_t, .inr (9, [.ref (B_t 0), .ref (B_t 1), .ref (B_t 2), .ref (B_t 3), .ref (B_t 4), .ref (B_t 5), .ref (B_t 6), .ref (B_t 7), .ref (B_t 8), .ref (B_t 9), .ref (B_t 10), .ref (B_t 11), .ref (B_t 12), .ref (B_t 13), .int t_toldCount])), ((B_t 0), .inr (6, [.ref (B_t_current 0), .int t_current_n])), ((B_t_current 0), .inl (Y 0, 64, .inl t_current_cells)), ((B_t 1), .inr (6, [.ref (B_t_draft 0), .int t_draft_n])), ((B_t_draft 0), .inl (Y 0, 64, .inl t_draft_cells)), ((B_t 4), .inr (8, [.ref (B_t_twisting 0), .int t_twisting_modulus])), ((B_t_twisting 0), .inl (Y 0, 64, .inl t_twisting_values))]

set_option maxHeartbeats 4000000 in
set_option maxRecDepth 100000 in
theorem wk_X10_cover {p : Program} {l : Launch} {e : Env} {R : Room} {s : State} {m : MethodId} {args : Array Value} {below : List Frame} {meth : Method} {c : Code} {Q : State → Prop} {G : va_G} {Y : Nat → ClassId} {tF : Nat} {A : Nat → Prop} (h_t : Nat) (B_t : Nat → Nat) (B_t_current : Nat → Nat) (B_t_draft : Nat → Nat) (B_t_twisting : Nat → Nat) (t_toldCount : Int32) (t_current_n : Int32) (t_current_cells : Nat → Int32) (t_draft_n : Int32) (t_draft_cells : Nat → Int32) (t_twisting_modulus : Int32) (t_twisting_values : Nat → Int32) {K : Int32 → Int32 → (Nat → Int32) → Int32 → (Nat → Int32) → (Nat → Int32) → Prop} (hx : p.tables.exec = Jvm.exec) (hb : c.code = cX10_cover) (hml : c.maxLocals = 6) (hown : s.vm.findClass RX10 = some m.cls) (hts : ∀ w ∈ wsX10_cover, w.before args s = true) (hK : va_K G vwCl (tyL Y) s) (hE : Ev A tF s) (hA : ∀ q, s.heap.size ≤ q → A q) (hRf : 3 ≤ R.frames) (hRl : 105 ≤ R.locals) (hret : ∀ (r : Int32) (t_current_n : Int32) (t_current_cells : Nat → Int32) (t_draft_n : Int32) (t_draft_cells : Nat → Int32) (t_twisting_values : Nat → Int32) (H : Heap) (locs : List Loc) (ls : Array Slot) (pc : Nat), va_P G vwCl (w_X10_cover Y h_t B_t B_t_current B_t_draft B_t_twisting t_toldCount t_current_n t_current_cells t_draft_n t_draft_cells t_twisting_modulus t_twisting_values) H → va_D A (w_X10_cover Y h_t B_t B_t_current B_t_draft B_t_twisting t_toldCount t_current_n t_current_cells t_draft_n t_draft_cells t_twisting_modulus t_twisting_values) → va_S A s.heap H locs → K r t_current_n t_current_cells t_draft_n t_draft_cells t_twisting_values → decode cX10_cover pc = .ok (.ireturn, 1) → W p l e R s m args below meth c H locs 0 0 Q (F0 m pc ls [.int r])) (hP : va_P G vwCl (w_X10_cover Y h_t B_t B_t_current B_t_draft B_t_twisting t_toldCount t_current_n t_current_cells t_draft_n t_draft_cells t_twisting_modulus t_twisting_values) s.heap) (hD : va_D A (w_X10_cover Y h_t B_t B_t_current B_t_draft B_t_twisting t_toldCount t_current_n t_current_cells t_draft_n t_draft_cells t_twisting_modulus t_twisting_values)) (h : pX10_cover t_current_n t_current_cells t_draft_n t_draft_cells t_twisting_modulus t_twisting_values K) : W p l e R s m args below meth c s.heap [] 0 0 Q (entryFrame m ([.ref h_t] : List Value).toArray 6) := by
  have inX10 : ∀ w ∈ u_ws RX10 TX10 15, w ∈ wsX10_cover := by decide +kernel
  have inX7 : ∀ w ∈ u_ws RX7 TX7 2, w ∈ wsX10_cover := by decide +kernel
  have inX9 : ∀ w ∈ u_ws RX9 TX9 2, w ∈ wsX10_cover := by decide +kernel
  have hf14 := hts (.fieldLink RX10 14 "RackBench" "current" "LRackBench$Table;") (by decide +kernel)
  have hf18 := hts (.fieldLink RX10 18 "RackBench" "draft" "LRackBench$Table;") (by decide +kernel)
  have hf31 := hts (.fieldLink RX10 31 "RackBench" "twisting" "LRackBench$Twist;") (by decide +kernel)
  have hl := lv_entry ([.ref h_t]) (n := 6) (Nat.le_of_ble_eq_true rfl)
  rw [lg_entry_eq]
  generalize (lg_sl ([.ref h_t]) ++ List.replicate (6 - (lg_sl ([.ref h_t])).length) Slot.unset).toArray = ls at hl ⊢
  have hl : lv_has ls 6 [(0, .ref h_t)] := hl
  generalize hH0 : s.heap = H at hP ⊢
  have hS : va_S A s.heap H [] := by rw [← hH0]; exact va_S.rf
  clear hH0
  generalize ([] : List Loc) = locs at hS ⊢
  refine lv_aload_n hx hb dX10_cover_0 rfl (lv_at hl 0 rfl) ?_
  refine va_get (D := G) (ci := 9) (v := .ref (B_t 4)) (C := RX10) (T := TX10) (N := 15) hx hb hts inX10 hown hK hP 0 rfl rfl 4 (by decide) hf31 (fun _ h9 => h9) rfl dX10_cover_1 ?_
  refine va_getN (D := G) (ci := 8) (v := .int t_twisting_modulus) (C := RX9) (T := TX9) (N := 2) hx hb hts inX9 hown hK hP 5 rfl rfl 1 (by decide) (hE.nest args 1 _ rfl) (fun _ h9 => h9) rfl dX10_cover_4 ?_
  refine lv_istore_n (lv' := [(1, .int t_twisting_modulus), (0, .ref h_t)]) hx hb dX10_cover_7 rfl hl (by decide) rfl (fun ls hl => ?_)
  refine lv_aload_n hx hb dX10_cover_8 rfl (lv_at hl 1 rfl) ?_
  refine va_get (D := G) (ci := 9) (v := .ref (B_t 0)) (C := RX10) (T := TX10) (N := 15) hx hb hts inX10 hown hK hP 0 rfl rfl 0 (by decide) hf14 (fun _ h9 => h9) rfl dX10_cover_9 ?_
  refine va_getN (D := G) (ci := 6) (v := .int t_current_n) (C := RX7) (T := TX7) (N := 2) hx hb hts inX7 hown hK hP 1 rfl rfl 1 (by decide) (hE.nest args 0 _ rfl) (fun _ h9 => h9) rfl dX10_cover_12 ?_
  refine lv_iload_n hx hb dX10_cover_15 rfl (lv_at hl 0 rfl) ?_
  refine lv_imul hx hb dX10_cover_16 ?_
  refine lv_bipush (v := 8) hx hb dX10_cover_17 (by decide) ?_
  obtain ⟨ht, hf⟩ := h
  refine lv_icmp_gt (tgt := 47) hx hb dX10_cover_19 (by decide) (fun c9 => ?_) (fun c9 => ?_)
  · have h := ht c9
    refine lv_iconst (v := -1) hx hb dX10_cover_47 (by decide) ?_
    exact hret (-1 : Int32) t_current_n t_current_cells t_draft_n t_draft_cells t_twisting_values H locs ls _ hP hD hS h dX10_cover_48
  · have h := hf c9
    refine lv_aload_n hx hb dX10_cover_22 rfl (lv_at hl 1 rfl) ?_
    refine va_get (D := G) (ci := 9) (v := .ref (B_t 0)) (C := RX10) (T := TX10) (N := 15) hx hb hts inX10 hown hK hP 0 rfl rfl 0 (by decide) hf14 (fun _ h9 => h9) rfl dX10_cover_23 ?_
    refine mc_iV ⟨hx, hb, hml, hown, hts⟩ hK hE hA hP hD hS (c_X7_isRack l G Y tF H.size (B_t 0) B_t_current t_current_n t_current_cells h) (cwV 0 hts gX10_cover_X7_isRack rfl rfl rfl (by decide +kernel) ⟨Nat.le_trans (by decide) hRf, Nat.le_trans (by decide) hRl⟩) (fun u => (w_X10_cover Y h_t B_t B_t_current B_t_draft B_t_twisting t_toldCount t_current_n t_current_cells t_draft_n t_draft_cells t_twisting_modulus t_twisting_values)) [1, 2] [0, 3, 4, 5, 6] [0, 5, 6, 1, 2, 3, 4] rfl rfl rfl rfl (by decide) (fun _ => rfl) rfl 1 6 rfl rfl rfl rfl hl.1 rfl (Nat.le_of_ble_eq_true rfl) dX10_cover_26 (fun r26 u H locs h hP hD hS => ?_)
    try dsimp only at h
    have hP : va_P G vwCl (w_X10_cover Y h_t B_t B_t_current B_t_draft B_t_twisting t_toldCount t_current_n t_current_cells t_draft_n t_draft_cells t_twisting_modulus t_twisting_values) H := hP
    have hD : va_D A (w_X10_cover Y h_t B_t B_t_current B_t_draft B_t_twisting t_toldCount t_current_n t_current_cells t_draft_n t_draft_cells t_twisting_modulus t_twisting_values) := hD
    obtain ⟨ht, hf⟩ := h
    refine lv_if_eq (tgt := 47) hx hb dX10_cover_29 (by decide) (fun c9 => ?_) (fun c9 => ?_)
    · have h := ht c9
      refine lv_iconst (v := -1) hx hb dX10_cover_47 (by decide) ?_
      exact hret (-1 : Int32) t_current_n t_current_cells t_draft_n t_draft_cells t_twisting_values H locs ls _ hP hD hS h dX10_cover_48
    · have h := hf c9
      refine lv_aload_n hx hb dX10_cover_32 rfl (lv_at hl 1 rfl) ?_
      refine va_get (D := G) (ci := 9) (v := .ref (B_t 4)) (C := RX10) (T := TX10) (N := 15) hx hb hts inX10 hown hK hP 0 rfl rfl 4 (by decide) hf31 (fun _ h9 => h9) rfl dX10_cover_33 ?_
      refine lv_aload_n hx hb dX10_cover_36 rfl (lv_at hl 1 rfl) ?_
      refine va_get (D := G) (ci := 9) (v := .ref (B_t 0)) (C := RX10) (T := TX10) (N := 15) hx hb hts inX10 hown hK hP 0 rfl rfl 0 (by decide) hf14 (fun _ h9 => h9) rfl dX10_cover_37 ?_
      refine mc_iV ⟨hx, hb, hml, hown, hts⟩ hK hE hA hP hD hS (c_X9_firstOpenTriple l G Y tF H.size (B_t 4) (B_t 0) B_t_twisting B_t_current t_twisting_modulus t_twisting_values t_current_n t_current_cells h) (cwV 1 hts gX10_cover_X9_firstOpenTriple rfl rfl rfl (by decide +kernel) ⟨Nat.le_trans (by decide) hRf, Nat.le_trans (by decide) hRl⟩) (fun u => (w_X10_cover Y h_t B_t B_t_current B_t_draft B_t_twisting t_toldCount t_current_n t_current_cells t_draft_n t_draft_cells t_twisting_modulus t_twisting_values)) [5, 6, 1, 2] [0, 3, 4] [0, 5, 6, 1, 2, 3, 4] rfl rfl rfl rfl (by decide) (fun _ => rfl) rfl 5 8 rfl rfl rfl rfl hl.1 rfl (Nat.le_of_ble_eq_true rfl) dX10_cover_40 (fun r40 u H locs h hP hD hS => ?_)
      try dsimp only at h
      have hP : va_P G vwCl (w_X10_cover Y h_t B_t B_t_current B_t_draft B_t_twisting t_toldCount t_current_n t_current_cells t_draft_n t_draft_cells t_twisting_modulus t_twisting_values) H := hP
      have hD : va_D A (w_X10_cover Y h_t B_t B_t_current B_t_draft B_t_twisting t_toldCount t_current_n t_current_cells t_draft_n t_draft_cells t_twisting_modulus t_twisting_values) := hD
      refine lv_iconst (v := -1) hx hb dX10_cover_43 (by decide) ?_
      obtain ⟨ht, hf⟩ := h
      refine lv_icmp_eq (tgt := 49) hx hb dX10_cover_44 (by decide) (fun c9 => ?_) (fun c9 => ?_)
      · have h := ht c9
        refine lv_aload_n hx hb dX10_cover_49 rfl (lv_at hl 1 rfl) ?_
        refine va_get (D := G) (ci := 9) (v := .ref (B_t 1)) (C := RX10) (T := TX10) (N := 15) hx hb hts inX10 hown hK hP 0 rfl rfl 1 (by decide) hf18 (fun _ h9 => h9) rfl dX10_cover_50 ?_
        refine lv_aload_n hx hb dX10_cover_53 rfl (lv_at hl 1 rfl) ?_
        refine va_get (D := G) (ci := 9) (v := .ref (B_t 0)) (C := RX10) (T := TX10) (N := 15) hx hb hts inX10 hown hK hP 0 rfl rfl 0 (by decide) hf14 (fun _ h9 => h9) rfl dX10_cover_54 ?_
        refine va_getN (D := G) (ci := 6) (v := .int t_current_n) (C := RX7) (T := TX7) (N := 2) hx hb hts inX7 hown hK hP 1 rfl rfl 1 (by decide) (hE.nest args 0 _ rfl) (fun _ h9 => h9) rfl dX10_cover_57 ?_
        refine lv_iload_n hx hb dX10_cover_60 rfl (lv_at hl 0 rfl) ?_
        refine lv_imul hx hb dX10_cover_61 ?_
        refine va_putN (D := G) (ci := 6) (v := .int (t_current_n * t_twisting_modulus)) (ty := .int) (C := RX7) (T := TX7) (N := 2) hx hb hts inX7 tyX7 tyX7_ok nmX7 hown hK hP hD hS 3 rfl rfl 1 (by decide) (hE.nest args 0 _ rfl) (fun _ h9 => h9) rfl (by decide +kernel) rfl rfl (Nat.le_of_ble_eq_true rfl) dX10_cover_62 (fun H locs hP hD hS => ?_)
        have hP : va_P G vwCl (w_X10_cover Y h_t B_t B_t_current B_t_draft B_t_twisting t_toldCount t_current_n t_current_cells (t_current_n * t_twisting_modulus) t_draft_cells t_twisting_modulus t_twisting_values) H := hP
        have hD : va_D A (w_X10_cover Y h_t B_t B_t_current B_t_draft B_t_twisting t_toldCount t_current_n t_current_cells (t_current_n * t_twisting_modulus) t_draft_cells t_twisting_modulus t_twisting_values) := hD
        refine lv_iconst (v := 0) hx hb dX10_cover_65 (by decide) ?_
        refine lv_istore_n (lv' := [(2, .int (0 : Int32)), (1, .int t_twisting_modulus), (0, .ref h_t)]) hx hb dX10_cover_66 rfl hl (by decide) rfl (fun ls hl => ?_)
        obtain ⟨I67, m67, hI67, hB67⟩ := h
        have L67 : ∀ (x1 : Int32) (t_current_n : Int32) (t_current_cells : Nat → Int32) (t_draft_n : Int32) (t_twisting_values : Nat → Int32) (I67 : Int32 → (Nat → Int32) → Prop) (m67 : Int32 → (Nat → Int32) → Nat), (∀ (x2 : Int32) (t_draft_cells : Nat → Int32), I67 x2 t_draft_cells → pX10_cover_67 t_twisting_modulus K x1 t_current_n t_current_cells t_draft_n t_twisting_values x2 t_draft_cells (fun x2' t_draft_cells' => I67 x2' t_draft_cells' ∧ m67 x2' t_draft_cells' < m67 x2 t_draft_cells)) → ∀ (n : Nat) (x2 : Int32) (t_draft_cells : Nat → Int32) (H : Heap) (locs : List Loc) (ls : Array Slot), I67 x2 t_draft_cells → m67 x2 t_draft_cells < n → va_P G vwCl (w_X10_cover Y h_t B_t B_t_current B_t_draft B_t_twisting t_toldCount t_current_n t_current_cells t_draft_n t_draft_cells t_twisting_modulus t_twisting_values) H → va_D A (w_X10_cover Y h_t B_t B_t_current B_t_draft B_t_twisting t_toldCount t_current_n t_current_cells t_draft_n t_draft_cells t_twisting_modulus t_twisting_values) → va_S A s.heap H locs → lv_has ls 6 [(0, .ref h_t), (1, .int x1), (2, .int x2)] → W p l e R s m args below meth c H locs 0 0 Q (F0 m 67 ls []) := by
          intro x1 t_current_n t_current_cells t_draft_n t_twisting_values I67 m67 hB67 n
          induction n with
          | zero => intro x2 t_draft_cells H locs ls _ hm; exact absurd hm (Nat.not_lt_zero _)
          | succ n ih =>
            intro x2 t_draft_cells H locs ls hI hm hP hD hS hl
            obtain ⟨R67, h, rec67⟩ : ∃ R67 : Int32 → (Nat → Int32) → Prop, pX10_cover_67 t_twisting_modulus K x1 t_current_n t_current_cells t_draft_n t_twisting_values x2 t_draft_cells R67 ∧ ∀ (x2 : Int32) (t_draft_cells : Nat → Int32) (H : Heap) (locs : List Loc) (ls : Array Slot), R67 x2 t_draft_cells → va_P G vwCl (w_X10_cover Y h_t B_t B_t_current B_t_draft B_t_twisting t_toldCount t_current_n t_current_cells t_draft_n t_draft_cells t_twisting_modulus t_twisting_values) H → va_D A (w_X10_cover Y h_t B_t B_t_current B_t_draft B_t_twisting t_toldCount t_current_n t_current_cells t_draft_n t_draft_cells t_twisting_modulus t_twisting_values) → va_S A s.heap H locs → lv_has ls 6 [(0, .ref h_t), (1, .int x1), (2, .int x2)] → W p l e R s m args below meth c H locs 0 0 Q (F0 m 67 ls []) := ⟨_, hB67 x2 t_draft_cells hI, fun x2 t_draft_cells H locs ls hh hP hD hS hl => ih x2 t_draft_cells H locs ls hh.1 (Nat.lt_of_lt_of_le hh.2 (Nat.le_of_lt_succ hm)) hP hD hS hl⟩
            refine lv_iload_n hx hb dX10_cover_67 rfl (lv_at hl 2 rfl) ?_
            refine lv_aload_n hx hb dX10_cover_68 rfl (lv_at hl 0 rfl) ?_
            refine va_get (D := G) (ci := 9) (v := .ref (B_t 1)) (C := RX10) (T := TX10) (N := 15) hx hb hts inX10 hown hK hP 0 rfl rfl 1 (by decide) hf18 (fun _ h9 => h9) rfl dX10_cover_69 ?_
            refine va_getN (D := G) (ci := 6) (v := .int t_draft_n) (C := RX7) (T := TX7) (N := 2) hx hb hts inX7 hown hK hP 3 rfl rfl 1 (by decide) (hE.nest args 0 _ rfl) (fun _ h9 => h9) rfl dX10_cover_72 ?_
            obtain ⟨ht, hf⟩ := h
            refine lv_icmp_ge (tgt := 155) hx hb dX10_cover_75 (by decide) (fun c9 => ?_) (fun c9 => ?_)
            · have h := ht c9
              refine lv_aload_n hx hb dX10_cover_155 rfl (lv_at hl 0 rfl) ?_
              refine mc_iV ⟨hx, hb, hml, hown, hts⟩ hK hE hA hP hD hS (c_X10_adoptDraft l G Y tF H.size h_t B_t B_t_current B_t_draft B_t_twisting t_toldCount t_current_n t_current_cells t_draft_n t_draft_cells t_twisting_modulus t_twisting_values h) (cwV 0 hts gX10_cover_X10_adoptDraft rfl rfl rfl (by decide +kernel) ⟨Nat.le_trans (by decide) hRf, Nat.le_trans (by decide) hRl⟩) (fun u => (w_X10_cover Y h_t B_t B_t_current B_t_draft B_t_twisting t_toldCount u.1 u.2.1 t_draft_n t_draft_cells t_twisting_modulus u.2.2)) [0, 1, 2, 3, 4, 5, 6] [] [0, 1, 2, 3, 4, 5, 6] rfl rfl rfl rfl (by decide) (fun _ => rfl) rfl 0 9 rfl rfl rfl rfl hl.1 rfl (Nat.le_of_ble_eq_true rfl) dX10_cover_156 (fun r156 u H locs h hP hD hS => ?_)
              obtain ⟨t_current_n_156, t_current_cells_156, t_twisting_values_156⟩ := u
              try dsimp only at h
              have hP : va_P G vwCl (w_X10_cover Y h_t B_t B_t_current B_t_draft B_t_twisting t_toldCount t_current_n_156 t_current_cells_156 t_draft_n t_draft_cells t_twisting_modulus t_twisting_values_156) H := hP
              have hD : va_D A (w_X10_cover Y h_t B_t B_t_current B_t_draft B_t_twisting t_toldCount t_current_n_156 t_current_cells_156 t_draft_n t_draft_cells t_twisting_modulus t_twisting_values_156) := hD
              exact hret r156 t_current_n_156 t_current_cells_156 t_draft_n t_draft_cells t_twisting_values_156 H locs ls _ hP hD hS h dX10_cover_159
            · have h := hf c9
              refine lv_iload_n hx hb dX10_cover_78 rfl (lv_at hl 2 rfl) ?_
              refine lv_iload_n hx hb dX10_cover_79 rfl (lv_at hl 1 rfl) ?_
              obtain ⟨hne, h⟩ := h
              refine lv_idiv hx hb dX10_cover_80 hne ?_
              refine lv_istore_n (lv' := [(3, .int (x2 / x1)), (0, .ref h_t), (1, .int x1), (2, .int x2)]) hx hb dX10_cover_81 rfl hl (by decide) rfl (fun ls hl => ?_)
              refine lv_iconst (v := 0) hx hb dX10_cover_82 (by decide) ?_
              refine lv_istore (lv' := [(4, .int (0 : Int32)), (3, .int (x2 / x1)), (0, .ref h_t), (1, .int x1), (2, .int x2)]) hx hb dX10_cover_83 hl (by decide) rfl (fun ls hl => ?_)
              obtain ⟨I85, m85, hI85, hB85⟩ := h
              have L85 : ∀ (x2 : Int32) (x3 : Int32) (I85 : Int32 → (Nat → Int32) → Prop) (m85 : Int32 → (Nat → Int32) → Nat), (∀ (x4 : Int32) (t_draft_cells : Nat → Int32), I85 x4 t_draft_cells → pX10_cover_85 t_twisting_modulus R67 K x1 t_current_n t_current_cells t_draft_n t_twisting_values x2 x3 x4 t_draft_cells (fun x4' t_draft_cells' => I85 x4' t_draft_cells' ∧ m85 x4' t_draft_cells' < m85 x4 t_draft_cells)) → ∀ (n : Nat) (x4 : Int32) (t_draft_cells : Nat → Int32) (H : Heap) (locs : List Loc) (ls : Array Slot), I85 x4 t_draft_cells → m85 x4 t_draft_cells < n → va_P G vwCl (w_X10_cover Y h_t B_t B_t_current B_t_draft B_t_twisting t_toldCount t_current_n t_current_cells t_draft_n t_draft_cells t_twisting_modulus t_twisting_values) H → va_D A (w_X10_cover Y h_t B_t B_t_current B_t_draft B_t_twisting t_toldCount t_current_n t_current_cells t_draft_n t_draft_cells t_twisting_modulus t_twisting_values) → va_S A s.heap H locs → lv_has ls 6 [(0, .ref h_t), (1, .int x1), (2, .int x2), (3, .int x3), (4, .int x4)] → W p l e R s m args below meth c H locs 0 0 Q (F0 m 85 ls []) := by
                intro x2 x3 I85 m85 hB85 n
                induction n with
                | zero => intro x4 t_draft_cells H locs ls _ hm; exact absurd hm (Nat.not_lt_zero _)
                | succ n ih =>
                  intro x4 t_draft_cells H locs ls hI hm hP hD hS hl
                  obtain ⟨R85, h, rec85⟩ : ∃ R85 : Int32 → (Nat → Int32) → Prop, pX10_cover_85 t_twisting_modulus R67 K x1 t_current_n t_current_cells t_draft_n t_twisting_values x2 x3 x4 t_draft_cells R85 ∧ ∀ (x4 : Int32) (t_draft_cells : Nat → Int32) (H : Heap) (locs : List Loc) (ls : Array Slot), R85 x4 t_draft_cells → va_P G vwCl (w_X10_cover Y h_t B_t B_t_current B_t_draft B_t_twisting t_toldCount t_current_n t_current_cells t_draft_n t_draft_cells t_twisting_modulus t_twisting_values) H → va_D A (w_X10_cover Y h_t B_t B_t_current B_t_draft B_t_twisting t_toldCount t_current_n t_current_cells t_draft_n t_draft_cells t_twisting_modulus t_twisting_values) → va_S A s.heap H locs → lv_has ls 6 [(0, .ref h_t), (1, .int x1), (2, .int x2), (3, .int x3), (4, .int x4)] → W p l e R s m args below meth c H locs 0 0 Q (F0 m 85 ls []) := ⟨_, hB85 x4 t_draft_cells hI, fun x4 t_draft_cells H locs ls hh hP hD hS hl => ih x4 t_draft_cells H locs ls hh.1 (Nat.lt_of_lt_of_le hh.2 (Nat.le_of_lt_succ hm)) hP hD hS hl⟩
                  refine lv_iload hx hb dX10_cover_85 (lv_at hl 4 rfl) ?_
                  refine lv_aload_n hx hb dX10_cover_87 rfl (lv_at hl 0 rfl) ?_
                  refine va_get (D := G) (ci := 9) (v := .ref (B_t 1)) (C := RX10) (T := TX10) (N := 15) hx hb hts inX10 hown hK hP 0 rfl rfl 1 (by decide) hf18 (fun _ h9 => h9) rfl dX10_cover_88 ?_
                  refine va_getN (D := G) (ci := 6) (v := .int t_draft_n) (C := RX7) (T := TX7) (N := 2) hx hb hts inX7 hown hK hP 3 rfl rfl 1 (by decide) (hE.nest args 0 _ rfl) (fun _ h9 => h9) rfl dX10_cover_91 ?_
                  obtain ⟨ht, hf⟩ := h
                  refine lv_icmp_ge (tgt := 149) hx hb dX10_cover_94 (by decide) (fun c9 => ?_) (fun c9 => ?_)
                  · have h := ht c9
                    refine lv_iinc (v := (x2 + 1)) (lv' := [(2, .int (x2 + 1)), (0, .ref h_t), (1, .int x1), (3, .int x3), (4, .int x4)]) hx hb dX10_cover_149 hl (k := 2) rfl rfl (by decide) rfl (fun ls hl => ?_)
                    refine lv_goto (tgt := 67) hx hb dX10_cover_152 (by decide) ?_
                    exact rec67 (x2 + 1) t_draft_cells H locs ls h hP hD hS (lv_sub hl [1, 2, 0] rfl)
                  · have h := hf c9
                    refine lv_iload hx hb dX10_cover_97 (lv_at hl 4 rfl) ?_
                    refine lv_iload_n hx hb dX10_cover_99 rfl (lv_at hl 1 rfl) ?_
                    obtain ⟨hne, h⟩ := h
                    refine lv_idiv hx hb dX10_cover_100 hne ?_
                    refine lv_istore (lv' := [(5, .int (x4 / x1)), (0, .ref h_t), (1, .int x1), (2, .int x2), (3, .int x3), (4, .int x4)]) hx hb dX10_cover_101 hl (by decide) rfl (fun ls hl => ?_)
                    refine lv_aload_n hx hb dX10_cover_103 rfl (lv_at hl 1 rfl) ?_
                    refine va_get (D := G) (ci := 9) (v := .ref (B_t 1)) (C := RX10) (T := TX10) (N := 15) hx hb hts inX10 hown hK hP 0 rfl rfl 1 (by decide) hf18 (fun _ h9 => h9) rfl dX10_cover_104 ?_
                    refine lv_iload_n hx hb dX10_cover_107 rfl (lv_at hl 3 rfl) ?_
                    refine lv_iload hx hb dX10_cover_108 (lv_at hl 5 rfl) ?_
                    refine lv_iload_n hx hb dX10_cover_110 rfl (lv_at hl 2 rfl) ?_
                    refine lv_aload_n hx hb dX10_cover_111 rfl (lv_at hl 1 rfl) ?_
                    refine va_get (D := G) (ci := 9) (v := .ref (B_t 0)) (C := RX10) (T := TX10) (N := 15) hx hb hts inX10 hown hK hP 0 rfl rfl 0 (by decide) hf14 (fun _ h9 => h9) rfl dX10_cover_112 ?_
                    refine lv_iload_n hx hb dX10_cover_115 rfl (lv_at hl 4 rfl) ?_
                    refine lv_iload hx hb dX10_cover_116 (lv_at hl 0 rfl) ?_
                    refine mc_iV ⟨hx, hb, hml, hown, hts⟩ hK hE hA hP hD hS (c_X7_turned l G Y tF H.size (B_t 0) B_t_current t_current_n t_current_cells x3 (x4 / x1) h) (cwV 2 hts gX10_cover_X7_turned rfl rfl rfl (by decide +kernel) ⟨Nat.le_trans (by decide) hRf, Nat.le_trans (by decide) hRl⟩) (fun u => (w_X10_cover Y h_t B_t B_t_current B_t_draft B_t_twisting t_toldCount t_current_n t_current_cells t_draft_n t_draft_cells t_twisting_modulus t_twisting_values)) [1, 2] [0, 3, 4, 5, 6] [0, 5, 6, 1, 2, 3, 4] rfl rfl rfl rfl (by decide) (fun _ => rfl) rfl 1 6 rfl rfl rfl rfl hl.1 rfl (Nat.le_of_ble_eq_true rfl) dX10_cover_118 (fun r118 u H locs h hP hD hS => ?_)
                    try dsimp only at h
                    have hP : va_P G vwCl (w_X10_cover Y h_t B_t B_t_current B_t_draft B_t_twisting t_toldCount t_current_n t_current_cells t_draft_n t_draft_cells t_twisting_modulus t_twisting_values) H := hP
                    have hD : va_D A (w_X10_cover Y h_t B_t B_t_current B_t_draft B_t_twisting t_toldCount t_current_n t_current_cells t_draft_n t_draft_cells t_twisting_modulus t_twisting_values) := hD
                    refine lv_imul hx hb dX10_cover_121 ?_
                    refine lv_iload hx hb dX10_cover_122 (lv_at hl 5 rfl) ?_
                    refine lv_iload_n hx hb dX10_cover_124 rfl (lv_at hl 2 rfl) ?_
                    obtain ⟨hne, h⟩ := h
                    refine lv_irem hx hb dX10_cover_125 hne ?_
                    refine lv_aload_n hx hb dX10_cover_126 rfl (lv_at hl 1 rfl) ?_
                    refine va_get (D := G) (ci := 9) (v := .ref (B_t 4)) (C := RX10) (T := TX10) (N := 15) hx hb hts inX10 hown hK hP 0 rfl rfl 4 (by decide) hf31 (fun _ h9 => h9) rfl dX10_cover_127 ?_
                    refine lv_iload_n hx hb dX10_cover_130 rfl (lv_at hl 4 rfl) ?_
                    refine lv_iload hx hb dX10_cover_131 (lv_at hl 0 rfl) ?_
                    refine mc_iV ⟨hx, hb, hml, hown, hts⟩ hK hE hA hP hD hS (c_X9_value l G Y tF H.size (B_t 4) B_t_twisting t_twisting_modulus t_twisting_values x3 (x4 / x1) h) (cwV 2 hts gX10_cover_X9_value rfl rfl rfl (by decide +kernel) ⟨Nat.le_trans (by decide) hRf, Nat.le_trans (by decide) hRl⟩) (fun u => (w_X10_cover Y h_t B_t B_t_current B_t_draft B_t_twisting t_toldCount t_current_n t_current_cells t_draft_n t_draft_cells t_twisting_modulus t_twisting_values)) [5, 6] [0, 1, 2, 3, 4] [0, 1, 2, 3, 4, 5, 6] rfl rfl rfl rfl (by decide) (fun _ => rfl) rfl 5 8 rfl rfl rfl rfl hl.1 rfl (Nat.le_of_ble_eq_true rfl) dX10_cover_133 (fun r133 u H locs h hP hD hS => ?_)
                    try dsimp only at h
                    have hP : va_P G vwCl (w_X10_cover Y h_t B_t B_t_current B_t_draft B_t_twisting t_toldCount t_current_n t_current_cells t_draft_n t_draft_cells t_twisting_modulus t_twisting_values) H := hP
                    have hD : va_D A (w_X10_cover Y h_t B_t B_t_current B_t_draft B_t_twisting t_toldCount t_current_n t_current_cells t_draft_n t_draft_cells t_twisting_modulus t_twisting_values) := hD
                    refine lv_iadd hx hb dX10_cover_136 ?_
                    refine lv_iload_n hx hb dX10_cover_137 rfl (lv_at hl 2 rfl) ?_
                    obtain ⟨hne, h⟩ := h
                    refine lv_irem hx hb dX10_cover_138 hne ?_
                    refine lv_iadd hx hb dX10_cover_139 ?_
                    refine mc_vV ⟨hx, hb, hml, hown, hts⟩ hK hE hA hP hD hS (c_X7_put l G Y tF H.size (B_t 1) B_t_draft t_draft_n t_draft_cells x2 x4 ((x1 * r118) + (((x4 - x4 / x1 * x1) + r133) - ((x4 - x4 / x1 * x1) + r133) / x1 * x1)) h) (cwV 3 hts gX10_cover_X7_put rfl rfl rfl (by decide +kernel) ⟨Nat.le_trans (by decide) hRf, Nat.le_trans (by decide) hRl⟩) (fun u => (w_X10_cover Y h_t B_t B_t_current B_t_draft B_t_twisting t_toldCount t_current_n t_current_cells t_draft_n u t_twisting_modulus t_twisting_values)) [3, 4] [0, 1, 2, 5, 6] [0, 1, 2, 5, 6, 3, 4] rfl rfl rfl rfl (by decide) (fun _ => rfl) rfl 3 6 rfl rfl rfl rfl hl.1 rfl (Nat.le_of_ble_eq_true rfl) dX10_cover_140 (fun u H locs h hP hD hS => ?_)
                    obtain ⟨t_draft_cells_140, rfl⟩ : ∃ z, z = u := ⟨_, rfl⟩
                    try dsimp only at h
                    have hP : va_P G vwCl (w_X10_cover Y h_t B_t B_t_current B_t_draft B_t_twisting t_toldCount t_current_n t_current_cells t_draft_n t_draft_cells_140 t_twisting_modulus t_twisting_values) H := hP
                    have hD : va_D A (w_X10_cover Y h_t B_t B_t_current B_t_draft B_t_twisting t_toldCount t_current_n t_current_cells t_draft_n t_draft_cells_140 t_twisting_modulus t_twisting_values) := hD
                    refine lv_iinc (v := (x4 + 1)) (lv' := [(4, .int (x4 + 1)), (5, .int (x4 / x1)), (0, .ref h_t), (1, .int x1), (2, .int x2), (3, .int x3)]) hx hb dX10_cover_143 hl (k := 5) rfl rfl (by decide) rfl (fun ls hl => ?_)
                    refine lv_goto (tgt := 85) hx hb dX10_cover_146 (by decide) ?_
                    exact rec85 (x4 + 1) t_draft_cells_140 H locs ls h hP hD hS (lv_sub hl [2, 3, 4, 5, 0] rfl)
              exact L85 x2 (x2 / x1) I85 m85 hB85 _ (0 : Int32) t_draft_cells H locs ls hI85 (Nat.lt_succ_self _) hP hD hS (lv_sub hl [2, 3, 4, 1, 0] rfl)
        exact L67 t_twisting_modulus t_current_n t_current_cells (t_current_n * t_twisting_modulus) t_twisting_values I67 m67 hB67 _ (0 : Int32) t_draft_cells H locs ls hI67 (Nat.lt_succ_self _) hP hD hS (lv_sub hl [2, 1, 0] rfl)
      · have h := hf c9
        refine lv_iconst (v := -1) hx hb dX10_cover_47 (by decide) ?_
        exact hret (-1 : Int32) t_current_n t_current_cells t_draft_n t_draft_cells t_twisting_values H locs ls _ hP hD hS h dX10_cover_48

set_option maxHeartbeats 4000000 in
set_option maxRecDepth 100000 in
theorem c_X10_cover (l : Launch) (G : va_G) (Y : Nat → ClassId) (tF sz : Nat) (h_t : Nat) (B_t : Nat → Nat) (B_t_current : Nat → Nat) (B_t_draft : Nat → Nat) (B_t_twisting : Nat → Nat) (t_toldCount : Int32) (t_current_n : Int32) (t_current_cells : Nat → Int32) (t_draft_n : Int32) (t_draft_cells : Nat → Int32) (t_twisting_modulus : Int32) (t_twisting_values : Nat → Int32) {K : Int32 → Int32 → (Nat → Int32) → Int32 → (Nat → Int32) → (Nat → Int32) → Prop} (h : pX10_cover t_current_n t_current_cells t_draft_n t_draft_cells t_twisting_modulus t_twisting_values K) : Met l yX10_cover wsX10_cover ({ frames := 3, cells := 0, slots := 0, locals := 105 }) (PcM G Y tF sz (w_X10_cover Y h_t B_t B_t_current B_t_draft B_t_twisting t_toldCount t_current_n t_current_cells t_draft_n t_draft_cells t_twisting_modulus t_twisting_values) [.ref h_t]) (va_Qi (fun (r : Int32) (u : Int32 × (Nat → Int32) × Int32 × (Nat → Int32) × (Nat → Int32)) => K r u.1 u.2.1 u.2.2.1 u.2.2.2.1 u.2.2.2.2) (fun u t => BM G Y (va_A (w_X10_cover Y h_t B_t B_t_current B_t_draft B_t_twisting t_toldCount t_current_n t_current_cells t_draft_n t_draft_cells t_twisting_modulus t_twisting_values) sz) (w_X10_cover Y h_t B_t B_t_current B_t_draft B_t_twisting t_toldCount u.1 u.2.1 u.2.2.1 u.2.2.2.1 t_twisting_modulus u.2.2.2.2) t) (va_A (w_X10_cover Y h_t B_t B_t_current B_t_draft B_t_twisting t_toldCount t_current_n t_current_cells t_draft_n t_draft_cells t_twisting_modulus t_twisting_values) sz)) 0 0 (va_A (w_X10_cover Y h_t B_t B_t_current B_t_draft B_t_twisting t_toldCount t_current_n t_current_cells t_draft_n t_draft_cells t_twisting_modulus t_twisting_values) sz) := by
  refine Met.ofW (cc := cX10_cover) (maxL := 6) (ret := (some .int)) (by decide +kernel) rfl ?_
  intro p e s m args below meth c s₁ B hml hv
  obtain ⟨rfl, hsz, hP, hK, hD0, hE⟩ := hv
  have hts := atoms_spec (ws := wsX10_cover) B.pre
  have hown : s.vm.findClass RX10 = some m.cls := findClass_of_methodNamed B.named
  have hlocks := B.notSynchronized
  subst hsz
  have hD := hD0.self (sz := s.heap.size)
  exact wk_X10_cover h_t B_t B_t_current B_t_draft B_t_twisting t_toldCount t_current_n t_current_cells t_draft_n t_draft_cells t_twisting_modulus t_twisting_values B.exec B.bytes hml hown hts hK hE (fun q h => Or.inr h) (Nat.le_refl _) (Nat.le_refl _) (fun r t_current_n t_current_cells t_draft_n t_draft_cells t_twisting_values H locs ls pc hP hD hS hk hd => W.iret (v := r) B.exec B.bytes B.returns (fun t ht hW => ⟨⟨r, (t_current_n, t_current_cells, t_draft_n, t_draft_cells, t_twisting_values), rfl, hk, by rw [ht]; exact hP, va_K.moved hW.alike hK, hD⟩, hS.F ht⟩) hS.2.2 hd) hP hD h

abbrev w_X10_power (Y : Nat → ClassId) (h_t : Nat) (B_t : Nat → Nat) (B_t_classes : Nat → Nat) (B_t_current : Nat → Nat) (B_t_solver : Nat → Nat) (t_toldCount : Int32) (t_classes_n : Int32) (t_classes_leader : Nat → Int32) (t_classes_numbers : Nat → Int32) (t_current_n : Int32) (t_current_cells : Nat → Int32) (t_solver_things : Int32) (t_solver_unknowns : Int32) (t_solver_prime : Int32) (t_solver_leads : Int64) (t_solver_equation : Nat → Int32) (t_solver_steps : Nat → Int32) : va_W := [(h_t, .inr (9, [.ref (B_t 0), .ref (B_t 1), .ref (B_t 2), .ref (B_t 3), .ref (B_t 4), .ref (B_t 5), .ref (B_t 6), .ref (B_t 7), .ref (B_t 8), .ref (B_t 9), .ref (B_t 10), .ref (B_t 11), .ref (B_t 12), .ref (B_t 13), .int t_toldCount])), ((B_t 6), .inr (1, [.ref (B_t_classes 0), .ref (B_t_classes 1), .int t_classes_n])), ((B_t_classes 0), .inl (Y 0, 8, .inl t_classes_leader)), ((B_t_classes 1), .inl (Y 0, 8, .inl t_classes_numbers)), ((B_t 0), .inr (6, [.ref (B_t_current 0), .int t_current_n])), ((B_t_current 0), .inl (Y 0, 64, .inl t_current_cells)), ((B_t 10), .inr (5, [.ref (B_t_solver 0), .ref (B_t_solver 1), .int t_solver_things, .int t_solver_unknowns, .int t_solver_prime, .long t_solver_leads])), ((B_t_solver 1), .inl (Y 0, 64, .inl t_solver_equation)), ((B_t_solver 0), .inl (Y 0, 4096, .inl t_solver_steps))]

set_option maxHeartbeats 4000000 in
set_option maxRecDepth 100000 in
theorem wk_X10_power {p : Program} {l : Launch} {e : Env} {R : Room} {s : State} {m : MethodId} {args : Array Value} {below : List Frame} {meth : Method} {c : Code} {Q : State → Prop} {G : va_G} {Y : Nat → ClassId} {tF : Nat} {A : Nat → Prop} (h_t : Nat) (B_t : Nat → Nat) (B_t_classes : Nat → Nat) (B_t_current : Nat → Nat) (B_t_solver : Nat → Nat) (t_toldCount : Int32) (t_classes_n : Int32) (t_classes_leader : Nat → Int32) (t_classes_numbers : Nat → Int32) (t_current_n : Int32) (t_current_cells : Nat → Int32) (t_solver_things : Int32) (t_solver_unknowns : Int32) (t_solver_prime : Int32) (t_solver_leads : Int64) (t_solver_equation : Nat → Int32) (t_solver_steps : Nat → Int32) (x1 : Int32) (x2 : Int32) {K : Int32 → Int32 → (Nat → Int32) → (Nat → Int32) → Int32 → Int32 → Int32 → Int64 → (Nat → Int32) → (Nat → Int32) → Prop} (hx : p.tables.exec = Jvm.exec) (hb : c.code = cX10_power) (hml : c.maxLocals = 4) (hown : s.vm.findClass RX10 = some m.cls) (hts : ∀ w ∈ wsX10_power, w.before args s = true) (hK : va_K G vwCl (tyL Y) s) (hE : Ev A tF s) (hA : ∀ q, s.heap.size ≤ q → A q) (hRf : 4 ≤ R.frames) (hRl : 92 ≤ R.locals) (hret : ∀ (r : Int32) (t_classes_n : Int32) (t_classes_leader : Nat → Int32) (t_classes_numbers : Nat → Int32) (t_solver_things : Int32) (t_solver_unknowns : Int32) (t_solver_prime : Int32) (t_solver_leads : Int64) (t_solver_equation : Nat → Int32) (t_solver_steps : Nat → Int32) (H : Heap) (locs : List Loc) (ls : Array Slot) (pc : Nat), va_P G vwCl (w_X10_power Y h_t B_t B_t_classes B_t_current B_t_solver t_toldCount t_classes_n t_classes_leader t_classes_numbers t_current_n t_current_cells t_solver_things t_solver_unknowns t_solver_prime t_solver_leads t_solver_equation t_solver_steps) H → va_D A (w_X10_power Y h_t B_t B_t_classes B_t_current B_t_solver t_toldCount t_classes_n t_classes_leader t_classes_numbers t_current_n t_current_cells t_solver_things t_solver_unknowns t_solver_prime t_solver_leads t_solver_equation t_solver_steps) → va_S A s.heap H locs → K r t_classes_n t_classes_leader t_classes_numbers t_solver_things t_solver_unknowns t_solver_prime t_solver_leads t_solver_equation t_solver_steps → decode cX10_power pc = .ok (.ireturn, 1) → W p l e R s m args below meth c H locs 0 0 Q (F0 m pc ls [.int r])) (hP : va_P G vwCl (w_X10_power Y h_t B_t B_t_classes B_t_current B_t_solver t_toldCount t_classes_n t_classes_leader t_classes_numbers t_current_n t_current_cells t_solver_things t_solver_unknowns t_solver_prime t_solver_leads t_solver_equation t_solver_steps) s.heap) (hD : va_D A (w_X10_power Y h_t B_t B_t_classes B_t_current B_t_solver t_toldCount t_classes_n t_classes_leader t_classes_numbers t_current_n t_current_cells t_solver_things t_solver_unknowns t_solver_prime t_solver_leads t_solver_equation t_solver_steps)) (h : pX10_power t_classes_n t_classes_leader t_classes_numbers t_current_n t_current_cells t_solver_things t_solver_unknowns t_solver_prime t_solver_leads t_solver_equation t_solver_steps x1 x2 K) : W p l e R s m args below meth c s.heap [] 0 0 Q (entryFrame m ([.ref h_t, .int x1, .int x2] : List Value).toArray 4) := by
  have inX10 : ∀ w ∈ u_ws RX10 TX10 15, w ∈ wsX10_power := by decide +kernel
  have inX7 : ∀ w ∈ u_ws RX7 TX7 2, w ∈ wsX10_power := by decide +kernel
  have hf14 := hts (.fieldLink RX10 14 "RackBench" "current" "LRackBench$Table;") (by decide +kernel)
  have hf73 := hts (.fieldLink RX10 73 "RackBench" "solver" "LRackBench$Solver;") (by decide +kernel)
  have hl := lv_entry ([.ref h_t, .int x1, .int x2]) (n := 4) (Nat.le_of_ble_eq_true rfl)
  rw [lg_entry_eq]
  generalize (lg_sl ([.ref h_t, .int x1, .int x2]) ++ List.replicate (4 - (lg_sl ([.ref h_t, .int x1, .int x2])).length) Slot.unset).toArray = ls at hl ⊢
  have hl : lv_has ls 4 [(0, .ref h_t), (1, .int x1), (2, .int x2)] := hl
  generalize hH0 : s.heap = H at hP ⊢
  have hS : va_S A s.heap H [] := by rw [← hH0]; exact va_S.rf
  clear hH0
  generalize ([] : List Loc) = locs at hS ⊢
  have J26 : ∀ (x1 : Int32) (x2 : Int32) (s0 : Int32) (t_classes_n : Int32) (t_classes_leader : Nat → Int32) (t_classes_numbers : Nat → Int32) (t_solver_things : Int32) (t_solver_unknowns : Int32) (t_solver_prime : Int32) (t_solver_leads : Int64) (t_solver_equation : Nat → Int32) (t_solver_steps : Nat → Int32) (H : Heap) (locs : List Loc) (ls : Array Slot), pX10_power_26 t_current_n t_current_cells K x1 x2 s0 t_classes_n t_classes_leader t_classes_numbers t_solver_things t_solver_unknowns t_solver_prime t_solver_leads t_solver_equation t_solver_steps → va_P G vwCl (w_X10_power Y h_t B_t B_t_classes B_t_current B_t_solver t_toldCount t_classes_n t_classes_leader t_classes_numbers t_current_n t_current_cells t_solver_things t_solver_unknowns t_solver_prime t_solver_leads t_solver_equation t_solver_steps) H → va_D A (w_X10_power Y h_t B_t B_t_classes B_t_current B_t_solver t_toldCount t_classes_n t_classes_leader t_classes_numbers t_current_n t_current_cells t_solver_things t_solver_unknowns t_solver_prime t_solver_leads t_solver_equation t_solver_steps) → va_S A s.heap H locs → lv_has ls 4 [(0, .ref h_t), (1, .int x1), (2, .int x2)] → W p l e R s m args below meth c H locs 0 0 Q (F0 m 26 ls [.int s0]) := by
    intro x1 x2 s0 t_classes_n t_classes_leader t_classes_numbers t_solver_things t_solver_unknowns t_solver_prime t_solver_leads t_solver_equation t_solver_steps H locs ls h hP hD hS hl
    refine lv_istore_n (lv' := [(3, .int s0), (0, .ref h_t), (1, .int x1), (2, .int x2)]) hx hb dX10_power_26 rfl hl (by decide) rfl (fun ls hl => ?_)
    refine lv_iload_n hx hb dX10_power_27 rfl (lv_at hl 0 rfl) ?_
    obtain ⟨ht, hf⟩ := h
    refine lv_if_eq (tgt := 50) hx hb dX10_power_28 (by decide) (fun c9 => ?_) (fun c9 => ?_)
    · have h := ht c9
      refine lv_iconst (v := -1) hx hb dX10_power_50 (by decide) ?_
      exact hret (-1 : Int32) t_classes_n t_classes_leader t_classes_numbers t_solver_things t_solver_unknowns t_solver_prime t_solver_leads t_solver_equation t_solver_steps H locs ls _ hP hD hS h dX10_power_51
    · have h := hf c9
      refine lv_iload_n hx hb dX10_power_31 rfl (lv_at hl 3 rfl) ?_
      obtain ⟨ht, hf⟩ := h
      refine lv_if_lt (tgt := 50) hx hb dX10_power_32 (by decide) (fun c9 => ?_) (fun c9 => ?_)
      · have h := ht c9
        refine lv_iconst (v := -1) hx hb dX10_power_50 (by decide) ?_
        exact hret (-1 : Int32) t_classes_n t_classes_leader t_classes_numbers t_solver_things t_solver_unknowns t_solver_prime t_solver_leads t_solver_equation t_solver_steps H locs ls _ hP hD hS h dX10_power_51
      · have h := hf c9
        refine lv_iload_n hx hb dX10_power_35 rfl (lv_at hl 3 rfl) ?_
        refine lv_iconst (v := 1) hx hb dX10_power_36 (by decide) ?_
        obtain ⟨ht, hf⟩ := h
        refine lv_icmp_gt (tgt := 50) hx hb dX10_power_37 (by decide) (fun c9 => ?_) (fun c9 => ?_)
        · have h := ht c9
          refine lv_iconst (v := -1) hx hb dX10_power_50 (by decide) ?_
          exact hret (-1 : Int32) t_classes_n t_classes_leader t_classes_numbers t_solver_things t_solver_unknowns t_solver_prime t_solver_leads t_solver_equation t_solver_steps H locs ls _ hP hD hS h dX10_power_51
        · have h := hf c9
          refine lv_aload_n hx hb dX10_power_40 rfl (lv_at hl 1 rfl) ?_
          refine va_get (D := G) (ci := 9) (v := .ref (B_t 0)) (C := RX10) (T := TX10) (N := 15) hx hb hts inX10 hown hK hP 0 rfl rfl 0 (by decide) hf14 (fun _ h9 => h9) rfl dX10_power_41 ?_
          refine mc_iV ⟨hx, hb, hml, hown, hts⟩ hK hE hA hP hD hS (c_X7_isRack l G Y tF H.size (B_t 0) B_t_current t_current_n t_current_cells h) (cwV 0 hts gX10_power_X7_isRack rfl rfl rfl (by decide +kernel) ⟨Nat.le_trans (by decide) hRf, Nat.le_trans (by decide) hRl⟩) (fun u => (w_X10_power Y h_t B_t B_t_classes B_t_current B_t_solver t_toldCount t_classes_n t_classes_leader t_classes_numbers t_current_n t_current_cells t_solver_things t_solver_unknowns t_solver_prime t_solver_leads t_solver_equation t_solver_steps)) [4, 5] [0, 1, 2, 3, 6, 7, 8] [0, 1, 2, 3, 7, 8, 4, 5, 6] rfl rfl rfl rfl (by decide) (fun _ => rfl) rfl 4 6 rfl rfl rfl rfl hl.1 rfl (Nat.le_of_ble_eq_true rfl) dX10_power_44 (fun r44 u H locs h hP hD hS => ?_)
          try dsimp only at h
          have hP : va_P G vwCl (w_X10_power Y h_t B_t B_t_classes B_t_current B_t_solver t_toldCount t_classes_n t_classes_leader t_classes_numbers t_current_n t_current_cells t_solver_things t_solver_unknowns t_solver_prime t_solver_leads t_solver_equation t_solver_steps) H := hP
          have hD : va_D A (w_X10_power Y h_t B_t B_t_classes B_t_current B_t_solver t_toldCount t_classes_n t_classes_leader t_classes_numbers t_current_n t_current_cells t_solver_things t_solver_unknowns t_solver_prime t_solver_leads t_solver_equation t_solver_steps) := hD
          obtain ⟨ht, hf⟩ := h
          refine lv_if_ne (tgt := 52) hx hb dX10_power_47 (by decide) (fun c9 => ?_) (fun c9 => ?_)
          · have h := ht c9
            refine lv_iload_n hx hb dX10_power_52 rfl (lv_at hl 3 rfl) ?_
            obtain ⟨ht, hf⟩ := h
            refine lv_if_ne (tgt := 69) hx hb dX10_power_53 (by decide) (fun c9 => ?_) (fun c9 => ?_)
            · have h := ht c9
              refine lv_aload_n hx hb dX10_power_69 rfl (lv_at hl 1 rfl) ?_
              refine va_get (D := G) (ci := 9) (v := .ref (B_t 0)) (C := RX10) (T := TX10) (N := 15) hx hb hts inX10 hown hK hP 0 rfl rfl 0 (by decide) hf14 (fun _ h9 => h9) rfl dX10_power_70 ?_
              refine va_getN (D := G) (ci := 6) (v := .int t_current_n) (C := RX7) (T := TX7) (N := 2) hx hb hts inX7 hown hK hP 4 rfl rfl 1 (by decide) (hE.nest args 0 _ rfl) (fun _ h9 => h9) rfl dX10_power_73 ?_
              refine lv_aload_n hx hb dX10_power_76 rfl (lv_at hl 1 rfl) ?_
              refine mc_iV ⟨hx, hb, hml, hown, hts⟩ hK hE hA hP hD hS (c_X10_splitIntoOrbits l G Y tF H.size h_t B_t B_t_classes B_t_current t_toldCount t_classes_n t_classes_leader t_classes_numbers t_current_n t_current_cells h) (cwV 0 hts gX10_power_X10_splitIntoOrbits rfl rfl rfl (by decide +kernel) ⟨Nat.le_trans (by decide) hRf, Nat.le_trans (by decide) hRl⟩) (fun u => (w_X10_power Y h_t B_t B_t_classes B_t_current B_t_solver t_toldCount u.1 u.2.1 u.2.2 t_current_n t_current_cells t_solver_things t_solver_unknowns t_solver_prime t_solver_leads t_solver_equation t_solver_steps)) [0, 1, 2, 3, 4, 5] [6, 7, 8] [3, 4, 5, 6, 7, 8, 0, 1, 2] rfl rfl rfl rfl (by decide) (fun _ => rfl) rfl 0 9 rfl rfl rfl rfl hl.1 rfl (Nat.le_of_ble_eq_true rfl) dX10_power_77 (fun r77 u H locs h hP hD hS => ?_)
              obtain ⟨t_classes_n_77, t_classes_leader_77, t_classes_numbers_77⟩ := u
              try dsimp only at h
              have hP : va_P G vwCl (w_X10_power Y h_t B_t B_t_classes B_t_current B_t_solver t_toldCount t_classes_n_77 t_classes_leader_77 t_classes_numbers_77 t_current_n t_current_cells t_solver_things t_solver_unknowns t_solver_prime t_solver_leads t_solver_equation t_solver_steps) H := hP
              have hD : va_D A (w_X10_power Y h_t B_t B_t_classes B_t_current B_t_solver t_toldCount t_classes_n_77 t_classes_leader_77 t_classes_numbers_77 t_current_n t_current_cells t_solver_things t_solver_unknowns t_solver_prime t_solver_leads t_solver_equation t_solver_steps) := hD
              refine lv_isub hx hb dX10_power_80 ?_
              exact hret (t_current_n - r77) t_classes_n_77 t_classes_leader_77 t_classes_numbers_77 t_solver_things t_solver_unknowns t_solver_prime t_solver_leads t_solver_equation t_solver_steps H locs ls _ hP hD hS h dX10_power_81
            · have h := hf c9
              refine lv_aload_n hx hb dX10_power_56 rfl (lv_at hl 1 rfl) ?_
              refine va_get (D := G) (ci := 9) (v := .ref (B_t 10)) (C := RX10) (T := TX10) (N := 15) hx hb hts inX10 hown hK hP 0 rfl rfl 10 (by decide) hf73 (fun _ h9 => h9) rfl dX10_power_57 ?_
              refine lv_aload_n hx hb dX10_power_60 rfl (lv_at hl 1 rfl) ?_
              refine va_get (D := G) (ci := 9) (v := .ref (B_t 0)) (C := RX10) (T := TX10) (N := 15) hx hb hts inX10 hown hK hP 0 rfl rfl 0 (by decide) hf14 (fun _ h9 => h9) rfl dX10_power_61 ?_
              refine lv_iload_n hx hb dX10_power_64 rfl (lv_at hl 2 rfl) ?_
              refine mc_iV ⟨hx, hb, hml, hown, hts⟩ hK hE hA hP hD hS (c_X6_closedPower l G Y tF H.size (B_t 10) (B_t 0) B_t_solver B_t_current t_solver_things t_solver_unknowns t_solver_prime t_solver_leads t_solver_equation t_solver_steps t_current_n t_current_cells x1 h) (cwV 2 hts gX10_power_X6_closedPower rfl rfl rfl (by decide +kernel) ⟨Nat.le_trans (by decide) hRf, Nat.le_trans (by decide) hRl⟩) (fun u => (w_X10_power Y h_t B_t B_t_classes B_t_current B_t_solver t_toldCount t_classes_n t_classes_leader t_classes_numbers t_current_n t_current_cells u.1 u.2.1 u.2.2.1 u.2.2.2.1 u.2.2.2.2.1 u.2.2.2.2.2)) [6, 7, 8, 4, 5] [0, 1, 2, 3] [0, 1, 2, 3, 7, 8, 4, 5, 6] rfl rfl rfl rfl (by decide) (fun _ => rfl) rfl 6 5 rfl rfl rfl rfl hl.1 rfl (Nat.le_of_ble_eq_true rfl) dX10_power_65 (fun r65 u H locs h hP hD hS => ?_)
              obtain ⟨t_solver_things_65, t_solver_unknowns_65, t_solver_prime_65, t_solver_leads_65, t_solver_equation_65, t_solver_steps_65⟩ := u
              try dsimp only at h
              have hP : va_P G vwCl (w_X10_power Y h_t B_t B_t_classes B_t_current B_t_solver t_toldCount t_classes_n t_classes_leader t_classes_numbers t_current_n t_current_cells t_solver_things_65 t_solver_unknowns_65 t_solver_prime_65 t_solver_leads_65 t_solver_equation_65 t_solver_steps_65) H := hP
              have hD : va_D A (w_X10_power Y h_t B_t B_t_classes B_t_current B_t_solver t_toldCount t_classes_n t_classes_leader t_classes_numbers t_current_n t_current_cells t_solver_things_65 t_solver_unknowns_65 t_solver_prime_65 t_solver_leads_65 t_solver_equation_65 t_solver_steps_65) := hD
              exact hret r65 t_classes_n t_classes_leader t_classes_numbers t_solver_things_65 t_solver_unknowns_65 t_solver_prime_65 t_solver_leads_65 t_solver_equation_65 t_solver_steps_65 H locs ls _ hP hD hS h dX10_power_68
          · have h := hf c9
            refine lv_iconst (v := -1) hx hb dX10_power_50 (by decide) ?_
            exact hret (-1 : Int32) t_classes_n t_classes_leader t_classes_numbers t_solver_things t_solver_unknowns t_solver_prime t_solver_leads t_solver_equation t_solver_steps H locs ls _ hP hD hS h dX10_power_51
  have J21 : ∀ (x1 : Int32) (x2 : Int32) (t_classes_n : Int32) (t_classes_leader : Nat → Int32) (t_classes_numbers : Nat → Int32) (t_solver_things : Int32) (t_solver_unknowns : Int32) (t_solver_prime : Int32) (t_solver_leads : Int64) (t_solver_equation : Nat → Int32) (t_solver_steps : Nat → Int32) (H : Heap) (locs : List Loc) (ls : Array Slot), pX10_power_21 t_current_n t_current_cells K x1 x2 t_classes_n t_classes_leader t_classes_numbers t_solver_things t_solver_unknowns t_solver_prime t_solver_leads t_solver_equation t_solver_steps → va_P G vwCl (w_X10_power Y h_t B_t B_t_classes B_t_current B_t_solver t_toldCount t_classes_n t_classes_leader t_classes_numbers t_current_n t_current_cells t_solver_things t_solver_unknowns t_solver_prime t_solver_leads t_solver_equation t_solver_steps) H → va_D A (w_X10_power Y h_t B_t B_t_classes B_t_current B_t_solver t_toldCount t_classes_n t_classes_leader t_classes_numbers t_current_n t_current_cells t_solver_things t_solver_unknowns t_solver_prime t_solver_leads t_solver_equation t_solver_steps) → va_S A s.heap H locs → lv_has ls 4 [(0, .ref h_t), (1, .int x1), (2, .int x2)] → W p l e R s m args below meth c H locs 0 0 Q (F0 m 21 ls []) := by
    intro x1 x2 t_classes_n t_classes_leader t_classes_numbers t_solver_things t_solver_unknowns t_solver_prime t_solver_leads t_solver_equation t_solver_steps H locs ls h hP hD hS hl
    refine lv_iconst (v := 1) hx hb dX10_power_21 (by decide) ?_
    refine lv_goto (tgt := 26) hx hb dX10_power_22 (by decide) ?_
    exact J26 x1 x2 (1 : Int32) t_classes_n t_classes_leader t_classes_numbers t_solver_things t_solver_unknowns t_solver_prime t_solver_leads t_solver_equation t_solver_steps H locs ls h hP hD hS (lv_sub hl [0, 1, 2] rfl)
  refine lv_iload_n hx hb dX10_power_0 rfl (lv_at hl 1 rfl) ?_
  refine lv_iconst (v := 2) hx hb dX10_power_1 (by decide) ?_
  obtain ⟨ht, hf⟩ := h
  refine lv_icmp_eq (tgt := 21) hx hb dX10_power_2 (by decide) (fun c9 => ?_) (fun c9 => ?_)
  · have h := ht c9
    exact J21 x1 x2 t_classes_n t_classes_leader t_classes_numbers t_solver_things t_solver_unknowns t_solver_prime t_solver_leads t_solver_equation t_solver_steps H locs ls h hP hD hS (lv_sub hl [0, 1, 2] rfl)
  · have h := hf c9
    refine lv_iload_n hx hb dX10_power_5 rfl (lv_at hl 1 rfl) ?_
    refine lv_iconst (v := 3) hx hb dX10_power_6 (by decide) ?_
    obtain ⟨ht, hf⟩ := h
    refine lv_icmp_eq (tgt := 21) hx hb dX10_power_7 (by decide) (fun c9 => ?_) (fun c9 => ?_)
    · have h := ht c9
      exact J21 x1 x2 t_classes_n t_classes_leader t_classes_numbers t_solver_things t_solver_unknowns t_solver_prime t_solver_leads t_solver_equation t_solver_steps H locs ls h hP hD hS (lv_sub hl [0, 1, 2] rfl)
    · have h := hf c9
      refine lv_iload_n hx hb dX10_power_10 rfl (lv_at hl 1 rfl) ?_
      refine lv_iconst (v := 5) hx hb dX10_power_11 (by decide) ?_
      obtain ⟨ht, hf⟩ := h
      refine lv_icmp_eq (tgt := 21) hx hb dX10_power_12 (by decide) (fun c9 => ?_) (fun c9 => ?_)
      · have h := ht c9
        exact J21 x1 x2 t_classes_n t_classes_leader t_classes_numbers t_solver_things t_solver_unknowns t_solver_prime t_solver_leads t_solver_equation t_solver_steps H locs ls h hP hD hS (lv_sub hl [0, 1, 2] rfl)
      · have h := hf c9
        refine lv_iload_n hx hb dX10_power_15 rfl (lv_at hl 1 rfl) ?_
        refine lv_bipush (v := 7) hx hb dX10_power_16 (by decide) ?_
        obtain ⟨ht, hf⟩ := h
        refine lv_icmp_ne (tgt := 25) hx hb dX10_power_18 (by decide) (fun c9 => ?_) (fun c9 => ?_)
        · have h := ht c9
          refine lv_iconst (v := 0) hx hb dX10_power_25 (by decide) ?_
          exact J26 x1 x2 (0 : Int32) t_classes_n t_classes_leader t_classes_numbers t_solver_things t_solver_unknowns t_solver_prime t_solver_leads t_solver_equation t_solver_steps H locs ls h hP hD hS (lv_sub hl [0, 1, 2] rfl)
        · have h := hf c9
          exact J21 x1 x2 t_classes_n t_classes_leader t_classes_numbers t_solver_things t_solver_unknowns t_solver_prime t_solver_leads t_solver_equation t_solver_steps H locs ls h hP hD hS (lv_sub hl [0, 1, 2] rfl)

set_option maxHeartbeats 4000000 in
set_option maxRecDepth 100000 in
theorem c_X10_power (l : Launch) (G : va_G) (Y : Nat → ClassId) (tF sz : Nat) (h_t : Nat) (B_t : Nat → Nat) (B_t_classes : Nat → Nat) (B_t_current : Nat → Nat) (B_t_solver : Nat → Nat) (t_toldCount : Int32) (t_classes_n : Int32) (t_classes_leader : Nat → Int32) (t_classes_numbers : Nat → Int32) (t_current_n : Int32) (t_current_cells : Nat → Int32) (t_solver_things : Int32) (t_solver_unknowns : Int32) (t_solver_prime : Int32) (t_solver_leads : Int64) (t_solver_equation : Nat → Int32) (t_solver_steps : Nat → Int32) (x1 : Int32) (x2 : Int32) {K : Int32 → Int32 → (Nat → Int32) → (Nat → Int32) → Int32 → Int32 → Int32 → Int64 → (Nat → Int32) → (Nat → Int32) → Prop} (h : pX10_power t_classes_n t_classes_leader t_classes_numbers t_current_n t_current_cells t_solver_things t_solver_unknowns t_solver_prime t_solver_leads t_solver_equation t_solver_steps x1 x2 K) : Met l yX10_power wsX10_power ({ frames := 4, cells := 0, slots := 0, locals := 92 }) (PcM G Y tF sz (w_X10_power Y h_t B_t B_t_classes B_t_current B_t_solver t_toldCount t_classes_n t_classes_leader t_classes_numbers t_current_n t_current_cells t_solver_things t_solver_unknowns t_solver_prime t_solver_leads t_solver_equation t_solver_steps) [.ref h_t, .int x1, .int x2]) (va_Qi (fun (r : Int32) (u : Int32 × (Nat → Int32) × (Nat → Int32) × Int32 × Int32 × Int32 × Int64 × (Nat → Int32) × (Nat → Int32)) => K r u.1 u.2.1 u.2.2.1 u.2.2.2.1 u.2.2.2.2.1 u.2.2.2.2.2.1 u.2.2.2.2.2.2.1 u.2.2.2.2.2.2.2.1 u.2.2.2.2.2.2.2.2) (fun u t => BM G Y (va_A (w_X10_power Y h_t B_t B_t_classes B_t_current B_t_solver t_toldCount t_classes_n t_classes_leader t_classes_numbers t_current_n t_current_cells t_solver_things t_solver_unknowns t_solver_prime t_solver_leads t_solver_equation t_solver_steps) sz) (w_X10_power Y h_t B_t B_t_classes B_t_current B_t_solver t_toldCount u.1 u.2.1 u.2.2.1 t_current_n t_current_cells u.2.2.2.1 u.2.2.2.2.1 u.2.2.2.2.2.1 u.2.2.2.2.2.2.1 u.2.2.2.2.2.2.2.1 u.2.2.2.2.2.2.2.2) t) (va_A (w_X10_power Y h_t B_t B_t_classes B_t_current B_t_solver t_toldCount t_classes_n t_classes_leader t_classes_numbers t_current_n t_current_cells t_solver_things t_solver_unknowns t_solver_prime t_solver_leads t_solver_equation t_solver_steps) sz)) 0 0 (va_A (w_X10_power Y h_t B_t B_t_classes B_t_current B_t_solver t_toldCount t_classes_n t_classes_leader t_classes_numbers t_current_n t_current_cells t_solver_things t_solver_unknowns t_solver_prime t_solver_leads t_solver_equation t_solver_steps) sz) := by
  refine Met.ofW (cc := cX10_power) (maxL := 4) (ret := (some .int)) (by decide +kernel) rfl ?_
  intro p e s m args below meth c s₁ B hml hv
  obtain ⟨rfl, hsz, hP, hK, hD0, hE⟩ := hv
  have hts := atoms_spec (ws := wsX10_power) B.pre
  have hown : s.vm.findClass RX10 = some m.cls := findClass_of_methodNamed B.named
  have hlocks := B.notSynchronized
  subst hsz
  have hD := hD0.self (sz := s.heap.size)
  exact wk_X10_power h_t B_t B_t_classes B_t_current B_t_solver t_toldCount t_classes_n t_classes_leader t_classes_numbers t_current_n t_current_cells t_solver_things t_solver_unknowns t_solver_prime t_solver_leads t_solver_equation t_solver_steps x1 x2 B.exec B.bytes hml hown hts hK hE (fun q h => Or.inr h) (Nat.le_refl _) (Nat.le_refl _) (fun r t_classes_n t_classes_leader t_classes_numbers t_solver_things t_solver_unknowns t_solver_prime t_solver_leads t_solver_equation t_solver_steps H locs ls pc hP hD hS hk hd => W.iret (v := r) B.exec B.bytes B.returns (fun t ht hW => ⟨⟨r, (t_classes_n, t_classes_leader, t_classes_numbers, t_solver_things, t_solver_unknowns, t_solver_prime, t_solver_leads, t_solver_equation, t_solver_steps), rfl, hk, by rw [ht]; exact hP, va_K.moved hW.alike hK, hD⟩, hS.F ht⟩) hS.2.2 hd) hP hD h

abbrev w_X10_strands (Y : Nat → ClassId) (h_t : Nat) (B_t : Nat → Nat) (B_t_braid : Nat → Nat) (t_toldCount : Int32) (t_braid_width : Int32) (t_braid_length : Int32) : va_W := [(h_t, .inr (9, [.ref (B_t 0), .ref (B_t 1), .ref (B_t 2), .ref (B_t 3), .ref (B_t 4), .ref (B_t 5), .ref (B_t 6), .ref (B_t 7), .ref (B_t 8), .ref (B_t 9), .ref (B_t 10), .ref (B_t 11), .ref (B_t 12), .ref (B_t 13), .int t_toldCount])), ((B_t 5), .inr (0, [.ref (B_t_braid 0), .ref (B_t_braid 1), .ref (B_t_braid 2), .ref (B_t_braid 3), .int t_braid_width, .int t_braid_length]))]

set_option maxHeartbeats 4000000 in
set_option maxRecDepth 100000 in
theorem wk_X10_strands {p : Program} {l : Launch} {e : Env} {R : Room} {s : State} {m : MethodId} {args : Array Value} {below : List Frame} {meth : Method} {c : Code} {Q : State → Prop} {G : va_G} {Y : Nat → ClassId} {tF : Nat} {A : Nat → Prop} (h_t : Nat) (B_t : Nat → Nat) (B_t_braid : Nat → Nat) (t_toldCount : Int32) (t_braid_width : Int32) (t_braid_length : Int32) (x1 : Int32) {K : Int32 → Int32 → Int32 → Prop} (hx : p.tables.exec = Jvm.exec) (hb : c.code = cX10_strands) (hml : c.maxLocals = 2) (hown : s.vm.findClass RX10 = some m.cls) (hts : ∀ w ∈ wsX10_strands, w.before args s = true) (hK : va_K G vwCl (tyL Y) s) (hE : Ev A tF s) (hA : ∀ q, s.heap.size ≤ q → A q) (hRf : 0 ≤ R.frames) (hRl : 0 ≤ R.locals) (hret : ∀ (r : Int32) (t_braid_width : Int32) (t_braid_length : Int32) (H : Heap) (locs : List Loc) (ls : Array Slot) (pc : Nat), va_P G vwCl (w_X10_strands Y h_t B_t B_t_braid t_toldCount t_braid_width t_braid_length) H → va_D A (w_X10_strands Y h_t B_t B_t_braid t_toldCount t_braid_width t_braid_length) → va_S A s.heap H locs → zb r → K r t_braid_width t_braid_length → decode cX10_strands pc = .ok (.ireturn, 1) → W p l e R s m args below meth c H locs 0 0 Q (F0 m pc ls [.int r])) (hP : va_P G vwCl (w_X10_strands Y h_t B_t B_t_braid t_toldCount t_braid_width t_braid_length) s.heap) (hD : va_D A (w_X10_strands Y h_t B_t B_t_braid t_toldCount t_braid_width t_braid_length)) (h : pX10_strands t_braid_width t_braid_length x1 K) : W p l e R s m args below meth c s.heap [] 0 0 Q (entryFrame m ([.ref h_t, .int x1] : List Value).toArray 2) := by
  have inX0 : ∀ w ∈ u_ws RX0 TX0 6, w ∈ wsX10_strands := by decide +kernel
  have inX10 : ∀ w ∈ u_ws RX10 TX10 15, w ∈ wsX10_strands := by decide +kernel
  have hf38 := hts (.fieldLink RX10 38 "RackBench" "braid" "LRackBench$Braid;") (by decide +kernel)
  have hl := lv_entry ([.ref h_t, .int x1]) (n := 2) (Nat.le_of_ble_eq_true rfl)
  rw [lg_entry_eq]
  generalize (lg_sl ([.ref h_t, .int x1]) ++ List.replicate (2 - (lg_sl ([.ref h_t, .int x1])).length) Slot.unset).toArray = ls at hl ⊢
  have hl : lv_has ls 2 [(0, .ref h_t), (1, .int x1)] := hl
  generalize hH0 : s.heap = H at hP ⊢
  have hS : va_S A s.heap H [] := by rw [← hH0]; exact va_S.rf
  clear hH0
  generalize ([] : List Loc) = locs at hS ⊢
  refine lv_iload_n hx hb dX10_strands_0 rfl (lv_at hl 1 rfl) ?_
  refine lv_iconst (v := 2) hx hb dX10_strands_1 (by decide) ?_
  obtain ⟨ht, hf⟩ := h
  refine lv_icmp_lt (tgt := 10) hx hb dX10_strands_2 (by decide) (fun c9 => ?_) (fun c9 => ?_)
  · have h := ht c9
    refine lv_iconst (v := 0) hx hb dX10_strands_10 (by decide) ?_
    obtain ⟨hz, h⟩ := h
    exact hret (0 : Int32) t_braid_width t_braid_length H locs ls _ hP hD hS hz h dX10_strands_11
  · have h := hf c9
    refine lv_iload_n hx hb dX10_strands_5 rfl (lv_at hl 1 rfl) ?_
    refine lv_iconst (v := 4) hx hb dX10_strands_6 (by decide) ?_
    obtain ⟨ht, hf⟩ := h
    refine lv_icmp_le (tgt := 12) hx hb dX10_strands_7 (by decide) (fun c9 => ?_) (fun c9 => ?_)
    · have h := ht c9
      refine lv_aload_n hx hb dX10_strands_12 rfl (lv_at hl 0 rfl) ?_
      refine va_get (D := G) (ci := 9) (v := .ref (B_t 5)) (C := RX10) (T := TX10) (N := 15) hx hb hts inX10 hown hK hP 0 rfl rfl 5 (by decide) hf38 (fun _ h9 => h9) rfl dX10_strands_13 ?_
      refine lv_iload_n hx hb dX10_strands_16 rfl (lv_at hl 1 rfl) ?_
      refine va_putN (D := G) (ci := 0) (v := .int x1) (ty := .int) (C := RX0) (T := TX0) (N := 6) hx hb hts inX0 tyX0 tyX0_ok nmX0 hown hK hP hD hS 1 rfl rfl 4 (by decide) (hE.nest args 2 _ rfl) (fun _ h9 => h9) rfl (by decide +kernel) rfl rfl (Nat.le_of_ble_eq_true rfl) dX10_strands_17 (fun H locs hP hD hS => ?_)
      have hP : va_P G vwCl (w_X10_strands Y h_t B_t B_t_braid t_toldCount x1 t_braid_length) H := hP
      have hD : va_D A (w_X10_strands Y h_t B_t B_t_braid t_toldCount x1 t_braid_length) := hD
      refine lv_aload_n hx hb dX10_strands_20 rfl (lv_at hl 0 rfl) ?_
      refine va_get (D := G) (ci := 9) (v := .ref (B_t 5)) (C := RX10) (T := TX10) (N := 15) hx hb hts inX10 hown hK hP 0 rfl rfl 5 (by decide) hf38 (fun _ h9 => h9) rfl dX10_strands_21 ?_
      refine lv_iconst (v := 0) hx hb dX10_strands_24 (by decide) ?_
      refine va_putN (D := G) (ci := 0) (v := .int (0 : Int32)) (ty := .int) (C := RX0) (T := TX0) (N := 6) hx hb hts inX0 tyX0 tyX0_ok nmX0 hown hK hP hD hS 1 rfl rfl 5 (by decide) (hE.nest args 3 _ rfl) (fun _ h9 => h9) rfl (by decide +kernel) rfl rfl (Nat.le_of_ble_eq_true rfl) dX10_strands_25 (fun H locs hP hD hS => ?_)
      have hP : va_P G vwCl (w_X10_strands Y h_t B_t B_t_braid t_toldCount x1 (0 : Int32)) H := hP
      have hD : va_D A (w_X10_strands Y h_t B_t B_t_braid t_toldCount x1 (0 : Int32)) := hD
      refine lv_iconst (v := 1) hx hb dX10_strands_28 (by decide) ?_
      obtain ⟨hz, h⟩ := h
      exact hret (1 : Int32) x1 (0 : Int32) H locs ls _ hP hD hS hz h dX10_strands_29
    · have h := hf c9
      refine lv_iconst (v := 0) hx hb dX10_strands_10 (by decide) ?_
      obtain ⟨hz, h⟩ := h
      exact hret (0 : Int32) t_braid_width t_braid_length H locs ls _ hP hD hS hz h dX10_strands_11

set_option maxHeartbeats 4000000 in
set_option maxRecDepth 100000 in
theorem c_X10_strands (l : Launch) (G : va_G) (Y : Nat → ClassId) (tF sz : Nat) (h_t : Nat) (B_t : Nat → Nat) (B_t_braid : Nat → Nat) (t_toldCount : Int32) (t_braid_width : Int32) (t_braid_length : Int32) (x1 : Int32) {K : Int32 → Int32 → Int32 → Prop} (h : pX10_strands t_braid_width t_braid_length x1 K) : Met l yX10_strands wsX10_strands ({ frames := 0, cells := 0, slots := 0, locals := 0 }) (PcM G Y tF sz (w_X10_strands Y h_t B_t B_t_braid t_toldCount t_braid_width t_braid_length) [.ref h_t, .int x1]) (va_Qi (fun (r : Int32) (u : Int32 × Int32) => K r u.1 u.2) (fun u t => BM G Y (va_A (w_X10_strands Y h_t B_t B_t_braid t_toldCount t_braid_width t_braid_length) sz) (w_X10_strands Y h_t B_t B_t_braid t_toldCount u.1 u.2) t) (va_A (w_X10_strands Y h_t B_t B_t_braid t_toldCount t_braid_width t_braid_length) sz)) 0 0 (va_A (w_X10_strands Y h_t B_t B_t_braid t_toldCount t_braid_width t_braid_length) sz) := by
  refine Met.ofW (cc := cX10_strands) (maxL := 2) (ret := (some .boolean)) (by decide +kernel) rfl ?_
  intro p e s m args below meth c s₁ B hml hv
  obtain ⟨rfl, hsz, hP, hK, hD0, hE⟩ := hv
  have hts := atoms_spec (ws := wsX10_strands) B.pre
  have hown : s.vm.findClass RX10 = some m.cls := findClass_of_methodNamed B.named
  have hlocks := B.notSynchronized
  subst hsz
  have hD := hD0.self (sz := s.heap.size)
  exact wk_X10_strands h_t B_t B_t_braid t_toldCount t_braid_width t_braid_length x1 B.exec B.bytes hml hown hts hK hE (fun q h => Or.inr h) (Nat.le_refl _) (Nat.le_refl _) (fun r t_braid_width t_braid_length H locs ls pc hP hD hS hz hk hd => W.zret (v := r) B.exec B.bytes B.returns hz.n (fun t ht hW => ⟨⟨r, (t_braid_width, t_braid_length), rfl, hk, by rw [ht]; exact hP, va_K.moved hW.alike hK, hD⟩, hS.F ht⟩) hS.2.2 hd) hP hD h

abbrev w_X10_letter (Y : Nat → ClassId) (h_t : Nat) (B_t : Nat → Nat) (B_t_braid : Nat → Nat) (t_toldCount : Int32) (t_braid_width : Int32) (t_braid_length : Int32) (t_braid_word : Nat → Int32) : va_W := [(h_t, .inr (9, [.ref (B_t 0), .ref (B_t 1), .ref (B_t 2), .ref (B_t 3), .ref (B_t 4), .ref (B_t 5), .ref (B_t 6), .ref (B_t 7), .ref (B_t 8), .ref (B_t 9), .ref (B_t 10), .ref (B_t 11), .ref (B_t 12), .ref (B_t 13), .int t_toldCount])), ((B_t 5), .inr (0, [.ref (B_t_braid 0), .ref (B_t_braid 1), .ref (B_t_braid 2), .ref (B_t_braid 3), .int t_braid_width, .int t_braid_length])), ((B_t_braid 0), .inl (Y 0, 24, .inl t_braid_word))]

set_option maxHeartbeats 4000000 in
set_option maxRecDepth 100000 in
theorem wk_X10_letter {p : Program} {l : Launch} {e : Env} {R : Room} {s : State} {m : MethodId} {args : Array Value} {below : List Frame} {meth : Method} {c : Code} {Q : State → Prop} {G : va_G} {Y : Nat → ClassId} {tF : Nat} {A : Nat → Prop} (h_t : Nat) (B_t : Nat → Nat) (B_t_braid : Nat → Nat) (t_toldCount : Int32) (t_braid_width : Int32) (t_braid_length : Int32) (t_braid_word : Nat → Int32) (x1 : Int32) {K : Int32 → Int32 → (Nat → Int32) → Prop} (hx : p.tables.exec = Jvm.exec) (hb : c.code = cX10_letter) (hml : c.maxLocals = 3) (hown : s.vm.findClass RX10 = some m.cls) (hts : ∀ w ∈ wsX10_letter, w.before args s = true) (hK : va_K G vwCl (tyL Y) s) (hE : Ev A tF s) (hA : ∀ q, s.heap.size ≤ q → A q) (hRf : 1 ≤ R.frames) (hRl : 21 ≤ R.locals) (hret : ∀ (r : Int32) (t_braid_length : Int32) (t_braid_word : Nat → Int32) (H : Heap) (locs : List Loc) (ls : Array Slot) (pc : Nat), va_P G vwCl (w_X10_letter Y h_t B_t B_t_braid t_toldCount t_braid_width t_braid_length t_braid_word) H → va_D A (w_X10_letter Y h_t B_t B_t_braid t_toldCount t_braid_width t_braid_length t_braid_word) → va_S A s.heap H locs → K r t_braid_length t_braid_word → decode cX10_letter pc = .ok (.ireturn, 1) → W p l e R s m args below meth c H locs 0 0 Q (F0 m pc ls [.int r])) (hP : va_P G vwCl (w_X10_letter Y h_t B_t B_t_braid t_toldCount t_braid_width t_braid_length t_braid_word) s.heap) (hD : va_D A (w_X10_letter Y h_t B_t B_t_braid t_toldCount t_braid_width t_braid_length t_braid_word)) (h : pX10_letter t_braid_width t_braid_length t_braid_word x1 K) : W p l e R s m args below meth c s.heap [] 0 0 Q (entryFrame m ([.ref h_t, .int x1] : List Value).toArray 3) := by
  have inX0 : ∀ w ∈ u_ws RX0 TX0 6, w ∈ wsX10_letter := by decide +kernel
  have inX10 : ∀ w ∈ u_ws RX10 TX10 15, w ∈ wsX10_letter := by decide +kernel
  have hf38 := hts (.fieldLink RX10 38 "RackBench" "braid" "LRackBench$Braid;") (by decide +kernel)
  have hl := lv_entry ([.ref h_t, .int x1]) (n := 3) (Nat.le_of_ble_eq_true rfl)
  rw [lg_entry_eq]
  generalize (lg_sl ([.ref h_t, .int x1]) ++ List.replicate (3 - (lg_sl ([.ref h_t, .int x1])).length) Slot.unset).toArray = ls at hl ⊢
  have hl : lv_has ls 3 [(0, .ref h_t), (1, .int x1)] := hl
  generalize hH0 : s.heap = H at hP ⊢
  have hS : va_S A s.heap H [] := by rw [← hH0]; exact va_S.rf
  clear hH0
  generalize ([] : List Loc) = locs at hS ⊢
  refine lv_aload_n hx hb dX10_letter_0 rfl (lv_at hl 0 rfl) ?_
  refine va_get (D := G) (ci := 9) (v := .ref (B_t 5)) (C := RX10) (T := TX10) (N := 15) hx hb hts inX10 hown hK hP 0 rfl rfl 5 (by decide) hf38 (fun _ h9 => h9) rfl dX10_letter_1 ?_
  refine va_getN (D := G) (ci := 0) (v := .int t_braid_width) (C := RX0) (T := TX0) (N := 6) hx hb hts inX0 hown hK hP 1 rfl rfl 4 (by decide) (hE.nest args 2 _ rfl) (fun _ h9 => h9) rfl dX10_letter_4 ?_
  refine lv_iconst (v := 1) hx hb dX10_letter_7 (by decide) ?_
  refine lv_isub hx hb dX10_letter_8 ?_
  refine lv_istore_n (lv' := [(2, .int (t_braid_width - (1 : Int32))), (0, .ref h_t), (1, .int x1)]) hx hb dX10_letter_9 rfl hl (by decide) rfl (fun ls hl => ?_)
  refine lv_iload_n hx hb dX10_letter_10 rfl (lv_at hl 2 rfl) ?_
  obtain ⟨ht, hf⟩ := h
  refine lv_if_eq (tgt := 37) hx hb dX10_letter_11 (by decide) (fun c9 => ?_) (fun c9 => ?_)
  · have h := ht c9
    refine lv_iconst (v := -1) hx hb dX10_letter_37 (by decide) ?_
    exact hret (-1 : Int32) t_braid_length t_braid_word H locs ls _ hP hD hS h dX10_letter_38
  · have h := hf c9
    refine lv_iload_n hx hb dX10_letter_14 rfl (lv_at hl 2 rfl) ?_
    refine lv_iload_n hx hb dX10_letter_15 rfl (lv_at hl 0 rfl) ?_
    refine lv_ineg hx hb dX10_letter_16 ?_
    obtain ⟨ht, hf⟩ := h
    refine lv_icmp_lt (tgt := 37) hx hb dX10_letter_17 (by decide) (fun c9 => ?_) (fun c9 => ?_)
    · have h := ht c9
      refine lv_iconst (v := -1) hx hb dX10_letter_37 (by decide) ?_
      exact hret (-1 : Int32) t_braid_length t_braid_word H locs ls _ hP hD hS h dX10_letter_38
    · have h := hf c9
      refine lv_iload_n hx hb dX10_letter_20 rfl (lv_at hl 2 rfl) ?_
      refine lv_iload_n hx hb dX10_letter_21 rfl (lv_at hl 0 rfl) ?_
      obtain ⟨ht, hf⟩ := h
      refine lv_icmp_gt (tgt := 37) hx hb dX10_letter_22 (by decide) (fun c9 => ?_) (fun c9 => ?_)
      · have h := ht c9
        refine lv_iconst (v := -1) hx hb dX10_letter_37 (by decide) ?_
        exact hret (-1 : Int32) t_braid_length t_braid_word H locs ls _ hP hD hS h dX10_letter_38
      · have h := hf c9
        refine lv_aload_n hx hb dX10_letter_25 rfl (lv_at hl 1 rfl) ?_
        refine va_get (D := G) (ci := 9) (v := .ref (B_t 5)) (C := RX10) (T := TX10) (N := 15) hx hb hts inX10 hown hK hP 0 rfl rfl 5 (by decide) hf38 (fun _ h9 => h9) rfl dX10_letter_26 ?_
        refine va_getN (D := G) (ci := 0) (v := .int t_braid_length) (C := RX0) (T := TX0) (N := 6) hx hb hts inX0 hown hK hP 1 rfl rfl 5 (by decide) (hE.nest args 3 _ rfl) (fun _ h9 => h9) rfl dX10_letter_29 ?_
        refine lv_bipush (v := 24) hx hb dX10_letter_32 (by decide) ?_
        obtain ⟨ht, hf⟩ := h
        refine lv_icmp_lt (tgt := 39) hx hb dX10_letter_34 (by decide) (fun c9 => ?_) (fun c9 => ?_)
        · have h := ht c9
          refine lv_aload_n hx hb dX10_letter_39 rfl (lv_at hl 1 rfl) ?_
          refine va_get (D := G) (ci := 9) (v := .ref (B_t 5)) (C := RX10) (T := TX10) (N := 15) hx hb hts inX10 hown hK hP 0 rfl rfl 5 (by decide) hf38 (fun _ h9 => h9) rfl dX10_letter_40 ?_
          refine lv_iload_n hx hb dX10_letter_43 rfl (lv_at hl 2 rfl) ?_
          refine mc_vV ⟨hx, hb, hml, hown, hts⟩ hK hE hA hP hD hS (c_X0_add l G Y tF H.size (B_t 5) B_t_braid t_braid_width t_braid_length t_braid_word x1 h) (cwV 1 hts gX10_letter_X0_add rfl rfl rfl (by decide +kernel) ⟨Nat.le_trans (by decide) hRf, Nat.le_trans (by decide) hRl⟩) (fun u => (w_X10_letter Y h_t B_t B_t_braid t_toldCount t_braid_width u.1 u.2)) [1, 2] [0] [0, 1, 2] rfl rfl rfl rfl (by decide) (fun _ => rfl) rfl 1 0 rfl rfl rfl rfl hl.1 rfl (Nat.le_of_ble_eq_true rfl) dX10_letter_44 (fun u H locs h hP hD hS => ?_)
          obtain ⟨t_braid_length_44, t_braid_word_44⟩ := u
          try dsimp only at h
          have hP : va_P G vwCl (w_X10_letter Y h_t B_t B_t_braid t_toldCount t_braid_width t_braid_length_44 t_braid_word_44) H := hP
          have hD : va_D A (w_X10_letter Y h_t B_t B_t_braid t_toldCount t_braid_width t_braid_length_44 t_braid_word_44) := hD
          refine lv_aload_n hx hb dX10_letter_47 rfl (lv_at hl 1 rfl) ?_
          refine va_get (D := G) (ci := 9) (v := .ref (B_t 5)) (C := RX10) (T := TX10) (N := 15) hx hb hts inX10 hown hK hP 0 rfl rfl 5 (by decide) hf38 (fun _ h9 => h9) rfl dX10_letter_48 ?_
          refine va_getN (D := G) (ci := 0) (v := .int t_braid_length_44) (C := RX0) (T := TX0) (N := 6) hx hb hts inX0 hown hK hP 1 rfl rfl 5 (by decide) (hE.nest args 3 _ rfl) (fun _ h9 => h9) rfl dX10_letter_51 ?_
          exact hret t_braid_length_44 t_braid_length_44 t_braid_word_44 H locs ls _ hP hD hS h dX10_letter_54
        · have h := hf c9
          refine lv_iconst (v := -1) hx hb dX10_letter_37 (by decide) ?_
          exact hret (-1 : Int32) t_braid_length t_braid_word H locs ls _ hP hD hS h dX10_letter_38

set_option maxHeartbeats 4000000 in
set_option maxRecDepth 100000 in
theorem c_X10_letter (l : Launch) (G : va_G) (Y : Nat → ClassId) (tF sz : Nat) (h_t : Nat) (B_t : Nat → Nat) (B_t_braid : Nat → Nat) (t_toldCount : Int32) (t_braid_width : Int32) (t_braid_length : Int32) (t_braid_word : Nat → Int32) (x1 : Int32) {K : Int32 → Int32 → (Nat → Int32) → Prop} (h : pX10_letter t_braid_width t_braid_length t_braid_word x1 K) : Met l yX10_letter wsX10_letter ({ frames := 1, cells := 0, slots := 0, locals := 21 }) (PcM G Y tF sz (w_X10_letter Y h_t B_t B_t_braid t_toldCount t_braid_width t_braid_length t_braid_word) [.ref h_t, .int x1]) (va_Qi (fun (r : Int32) (u : Int32 × (Nat → Int32)) => K r u.1 u.2) (fun u t => BM G Y (va_A (w_X10_letter Y h_t B_t B_t_braid t_toldCount t_braid_width t_braid_length t_braid_word) sz) (w_X10_letter Y h_t B_t B_t_braid t_toldCount t_braid_width u.1 u.2) t) (va_A (w_X10_letter Y h_t B_t B_t_braid t_toldCount t_braid_width t_braid_length t_braid_word) sz)) 0 0 (va_A (w_X10_letter Y h_t B_t B_t_braid t_toldCount t_braid_width t_braid_length t_braid_word) sz) := by
  refine Met.ofW (cc := cX10_letter) (maxL := 3) (ret := (some .int)) (by decide +kernel) rfl ?_
  intro p e s m args below meth c s₁ B hml hv
  obtain ⟨rfl, hsz, hP, hK, hD0, hE⟩ := hv
  have hts := atoms_spec (ws := wsX10_letter) B.pre
  have hown : s.vm.findClass RX10 = some m.cls := findClass_of_methodNamed B.named
  have hlocks := B.notSynchronized
  subst hsz
  have hD := hD0.self (sz := s.heap.size)
  exact wk_X10_letter h_t B_t B_t_braid t_toldCount t_braid_width t_braid_length t_braid_word x1 B.exec B.bytes hml hown hts hK hE (fun q h => Or.inr h) (Nat.le_refl _) (Nat.le_refl _) (fun r t_braid_length t_braid_word H locs ls pc hP hD hS hk hd => W.iret (v := r) B.exec B.bytes B.returns (fun t ht hW => ⟨⟨r, (t_braid_length, t_braid_word), rfl, hk, by rw [ht]; exact hP, va_K.moved hW.alike hK, hD⟩, hS.F ht⟩) hS.2.2 hd) hP hD h

abbrev w_X10_colours (Y : Nat → ClassId) (h_t : Nat) (B_t : Nat → Nat) (B_t_braid : Nat → Nat) (B_t_contrary : Nat → Nat) (B_t_current : Nat → Nat) (B_t_twisting : Nat → Nat) (t_toldCount : Int32) (t_braid_width : Int32) (t_braid_length : Int32) (t_braid_ahead : Nat → Int32) (t_braid_now : Nat → Int32) (t_braid_tallies : Nat → Int32) (t_braid_word : Nat → Int32) (t_contrary_n : Int32) (t_contrary_cells : Nat → Int32) (t_current_n : Int32) (t_current_cells : Nat → Int32) (t_twisting_modulus : Int32) (t_twisting_values : Nat → Int32) : va_W := [(h_t, .inr (9, [.ref (B_t 0), .ref (B_t 1), .ref (B_t 2), .ref (B_t 3), .ref (B_t 4), .ref (B_t 5), .ref (B_t 6), .ref (B_t 7), .ref (B_t 8), .ref (B_t 9), .ref (B_t 10), .ref (B_t 11), .ref (B_t 12), .ref (B_t 13), .int t_toldCount])), ((B_t 5), .inr (0, [.ref (B_t_braid 0), .ref (B_t_braid 1), .ref (B_t_braid 2), .ref (B_t_braid 3), .int t_braid_width, .int t_braid_length])), ((B_t_braid 1), .inl (Y 0, 4, .inl t_braid_ahead)), ((B_t_braid 2), .inl (Y 0, 4, .inl t_braid_now)), ((B_t_braid 3), .inl (Y 0, 7, .inl t_braid_tallies)), ((B_t_braid 0), .inl (Y 0, 24, .inl t_braid_word)), ((B_t 2), .inr (6, [.ref (B_t_contrary 0), .int t_contrary_n])), ((B_t_contrary 0), .inl (Y 0, 64, .inl t_contrary_cells)), ((B_t 0), .inr (6, [.ref (B_t_current 0), .int t_current_n])), ((B_t_current 0), .inl (Y 0, 64, .inl t_current_cells)), ((B_t 4), .inr (8, [.ref (B_t_twisting 0), .int t_twisting_modulus])), ((B_t_twisting 0), .inl (Y 0, 64, .inl t_twisting_values))]

set_option maxHeartbeats 4000000 in
set_option maxRecDepth 100000 in
theorem wk_X10_colours {p : Program} {l : Launch} {e : Env} {R : Room} {s : State} {m : MethodId} {args : Array Value} {below : List Frame} {meth : Method} {c : Code} {Q : State → Prop} {G : va_G} {Y : Nat → ClassId} {tF : Nat} {A : Nat → Prop} (h_t : Nat) (B_t : Nat → Nat) (B_t_braid : Nat → Nat) (B_t_contrary : Nat → Nat) (B_t_current : Nat → Nat) (B_t_twisting : Nat → Nat) (t_toldCount : Int32) (t_braid_width : Int32) (t_braid_length : Int32) (t_braid_ahead : Nat → Int32) (t_braid_now : Nat → Int32) (t_braid_tallies : Nat → Int32) (t_braid_word : Nat → Int32) (t_contrary_n : Int32) (t_contrary_cells : Nat → Int32) (t_current_n : Int32) (t_current_cells : Nat → Int32) (t_twisting_modulus : Int32) (t_twisting_values : Nat → Int32) {K : Int32 → (Nat → Int32) → (Nat → Int32) → (Nat → Int32) → Int32 → (Nat → Int32) → Prop} (hx : p.tables.exec = Jvm.exec) (hb : c.code = cX10_colours) (hml : c.maxLocals = 3) (hown : s.vm.findClass RX10 = some m.cls) (hts : ∀ w ∈ wsX10_colours, w.before args s = true) (hK : va_K G vwCl (tyL Y) s) (hE : Ev A tF s) (hA : ∀ q, s.heap.size ≤ q → A q) (hRf : 3 ≤ R.frames) (hRl : 75 ≤ R.locals) (hret : ∀ (r : Int32) (t_braid_ahead : Nat → Int32) (t_braid_now : Nat → Int32) (t_braid_tallies : Nat → Int32) (t_contrary_n : Int32) (t_contrary_cells : Nat → Int32) (H : Heap) (locs : List Loc) (ls : Array Slot) (pc : Nat), va_P G vwCl (w_X10_colours Y h_t B_t B_t_braid B_t_contrary B_t_current B_t_twisting t_toldCount t_braid_width t_braid_length t_braid_ahead t_braid_now t_braid_tallies t_braid_word t_contrary_n t_contrary_cells t_current_n t_current_cells t_twisting_modulus t_twisting_values) H → va_D A (w_X10_colours Y h_t B_t B_t_braid B_t_contrary B_t_current B_t_twisting t_toldCount t_braid_width t_braid_length t_braid_ahead t_braid_now t_braid_tallies t_braid_word t_contrary_n t_contrary_cells t_current_n t_current_cells t_twisting_modulus t_twisting_values) → va_S A s.heap H locs → K r t_braid_ahead t_braid_now t_braid_tallies t_contrary_n t_contrary_cells → decode cX10_colours pc = .ok (.ireturn, 1) → W p l e R s m args below meth c H locs 0 0 Q (F0 m pc ls [.int r])) (hP : va_P G vwCl (w_X10_colours Y h_t B_t B_t_braid B_t_contrary B_t_current B_t_twisting t_toldCount t_braid_width t_braid_length t_braid_ahead t_braid_now t_braid_tallies t_braid_word t_contrary_n t_contrary_cells t_current_n t_current_cells t_twisting_modulus t_twisting_values) s.heap) (hD : va_D A (w_X10_colours Y h_t B_t B_t_braid B_t_contrary B_t_current B_t_twisting t_toldCount t_braid_width t_braid_length t_braid_ahead t_braid_now t_braid_tallies t_braid_word t_contrary_n t_contrary_cells t_current_n t_current_cells t_twisting_modulus t_twisting_values)) (h : pX10_colours t_braid_width t_braid_length t_braid_ahead t_braid_now t_braid_tallies t_braid_word t_contrary_n t_contrary_cells t_current_n t_current_cells t_twisting_modulus t_twisting_values K) : W p l e R s m args below meth c s.heap [] 0 0 Q (entryFrame m ([.ref h_t] : List Value).toArray 3) := by
  have inX10 : ∀ w ∈ u_ws RX10 TX10 15, w ∈ wsX10_colours := by decide +kernel
  have inX9 : ∀ w ∈ u_ws RX9 TX9 2, w ∈ wsX10_colours := by decide +kernel
  have hf14 := hts (.fieldLink RX10 14 "RackBench" "current" "LRackBench$Table;") (by decide +kernel)
  have hf21 := hts (.fieldLink RX10 21 "RackBench" "contrary" "LRackBench$Table;") (by decide +kernel)
  have hf31 := hts (.fieldLink RX10 31 "RackBench" "twisting" "LRackBench$Twist;") (by decide +kernel)
  have hf38 := hts (.fieldLink RX10 38 "RackBench" "braid" "LRackBench$Braid;") (by decide +kernel)
  have hl := lv_entry ([.ref h_t]) (n := 3) (Nat.le_of_ble_eq_true rfl)
  rw [lg_entry_eq]
  generalize (lg_sl ([.ref h_t]) ++ List.replicate (3 - (lg_sl ([.ref h_t])).length) Slot.unset).toArray = ls at hl ⊢
  have hl : lv_has ls 3 [(0, .ref h_t)] := hl
  generalize hH0 : s.heap = H at hP ⊢
  have hS : va_S A s.heap H [] := by rw [← hH0]; exact va_S.rf
  clear hH0
  generalize ([] : List Loc) = locs at hS ⊢
  refine lv_aload_n hx hb dX10_colours_0 rfl (lv_at hl 0 rfl) ?_
  refine va_get (D := G) (ci := 9) (v := .ref (B_t 0)) (C := RX10) (T := TX10) (N := 15) hx hb hts inX10 hown hK hP 0 rfl rfl 0 (by decide) hf14 (fun _ h9 => h9) rfl dX10_colours_1 ?_
  refine mc_iV ⟨hx, hb, hml, hown, hts⟩ hK hE hA hP hD hS (c_X7_isRack l G Y tF H.size (B_t 0) B_t_current t_current_n t_current_cells h) (cwV 0 hts gX10_colours_X7_isRack rfl rfl rfl (by decide +kernel) ⟨Nat.le_trans (by decide) hRf, Nat.le_trans (by decide) hRl⟩) (fun u => (w_X10_colours Y h_t B_t B_t_braid B_t_contrary B_t_current B_t_twisting t_toldCount t_braid_width t_braid_length t_braid_ahead t_braid_now t_braid_tallies t_braid_word t_contrary_n t_contrary_cells t_current_n t_current_cells t_twisting_modulus t_twisting_values)) [8, 9] [0, 1, 2, 3, 4, 5, 6, 7, 10, 11] [0, 1, 2, 3, 4, 5, 6, 7, 10, 11, 8, 9] rfl rfl rfl rfl (by decide) (fun _ => rfl) rfl 8 6 rfl rfl rfl rfl hl.1 rfl (Nat.le_of_ble_eq_true rfl) dX10_colours_4 (fun r4 u H locs h hP hD hS => ?_)
  try dsimp only at h
  have hP : va_P G vwCl (w_X10_colours Y h_t B_t B_t_braid B_t_contrary B_t_current B_t_twisting t_toldCount t_braid_width t_braid_length t_braid_ahead t_braid_now t_braid_tallies t_braid_word t_contrary_n t_contrary_cells t_current_n t_current_cells t_twisting_modulus t_twisting_values) H := hP
  have hD : va_D A (w_X10_colours Y h_t B_t B_t_braid B_t_contrary B_t_current B_t_twisting t_toldCount t_braid_width t_braid_length t_braid_ahead t_braid_now t_braid_tallies t_braid_word t_contrary_n t_contrary_cells t_current_n t_current_cells t_twisting_modulus t_twisting_values) := hD
  obtain ⟨ht, hf⟩ := h
  refine lv_if_ne (tgt := 12) hx hb dX10_colours_7 (by decide) (fun c9 => ?_) (fun c9 => ?_)
  · have h := ht c9
    refine lv_aload_n hx hb dX10_colours_12 rfl (lv_at hl 0 rfl) ?_
    refine va_get (D := G) (ci := 9) (v := .ref (B_t 2)) (C := RX10) (T := TX10) (N := 15) hx hb hts inX10 hown hK hP 0 rfl rfl 2 (by decide) hf21 (fun _ h9 => h9) rfl dX10_colours_13 ?_
    refine lv_aload_n hx hb dX10_colours_16 rfl (lv_at hl 0 rfl) ?_
    refine va_get (D := G) (ci := 9) (v := .ref (B_t 0)) (C := RX10) (T := TX10) (N := 15) hx hb hts inX10 hown hK hP 0 rfl rfl 0 (by decide) hf14 (fun _ h9 => h9) rfl dX10_colours_17 ?_
    refine mc_vV ⟨hx, hb, hml, hown, hts⟩ hK hE hA hP hD hS (c_X7_makeContrary l G Y tF H.size (B_t 2) (B_t 0) B_t_contrary B_t_current t_contrary_n t_contrary_cells t_current_n t_current_cells h) (cwV 1 hts gX10_colours_X7_makeContrary rfl rfl rfl (by decide +kernel) ⟨Nat.le_trans (by decide) hRf, Nat.le_trans (by decide) hRl⟩) (fun u => (w_X10_colours Y h_t B_t B_t_braid B_t_contrary B_t_current B_t_twisting t_toldCount t_braid_width t_braid_length t_braid_ahead t_braid_now t_braid_tallies t_braid_word u.1 u.2 t_current_n t_current_cells t_twisting_modulus t_twisting_values)) [6, 7, 8, 9] [0, 1, 2, 3, 4, 5, 10, 11] [0, 1, 2, 3, 4, 5, 8, 9, 10, 11, 6, 7] rfl rfl rfl rfl (by decide) (fun _ => rfl) rfl 6 6 rfl rfl rfl rfl hl.1 rfl (Nat.le_of_ble_eq_true rfl) dX10_colours_20 (fun u H locs h hP hD hS => ?_)
    obtain ⟨t_contrary_n_20, t_contrary_cells_20⟩ := u
    try dsimp only at h
    have hP : va_P G vwCl (w_X10_colours Y h_t B_t B_t_braid B_t_contrary B_t_current B_t_twisting t_toldCount t_braid_width t_braid_length t_braid_ahead t_braid_now t_braid_tallies t_braid_word t_contrary_n_20 t_contrary_cells_20 t_current_n t_current_cells t_twisting_modulus t_twisting_values) H := hP
    have hD : va_D A (w_X10_colours Y h_t B_t B_t_braid B_t_contrary B_t_current B_t_twisting t_toldCount t_braid_width t_braid_length t_braid_ahead t_braid_now t_braid_tallies t_braid_word t_contrary_n_20 t_contrary_cells_20 t_current_n t_current_cells t_twisting_modulus t_twisting_values) := hD
    refine lv_aload_n hx hb dX10_colours_23 rfl (lv_at hl 0 rfl) ?_
    refine va_get (D := G) (ci := 9) (v := .ref (B_t 5)) (C := RX10) (T := TX10) (N := 15) hx hb hts inX10 hown hK hP 0 rfl rfl 5 (by decide) hf38 (fun _ h9 => h9) rfl dX10_colours_24 ?_
    refine lv_aload_n hx hb dX10_colours_27 rfl (lv_at hl 0 rfl) ?_
    refine va_get (D := G) (ci := 9) (v := .ref (B_t 0)) (C := RX10) (T := TX10) (N := 15) hx hb hts inX10 hown hK hP 0 rfl rfl 0 (by decide) hf14 (fun _ h9 => h9) rfl dX10_colours_28 ?_
    refine lv_aload_n hx hb dX10_colours_31 rfl (lv_at hl 0 rfl) ?_
    refine va_get (D := G) (ci := 9) (v := .ref (B_t 2)) (C := RX10) (T := TX10) (N := 15) hx hb hts inX10 hown hK hP 0 rfl rfl 2 (by decide) hf21 (fun _ h9 => h9) rfl dX10_colours_32 ?_
    refine lv_aload_n hx hb dX10_colours_35 rfl (lv_at hl 0 rfl) ?_
    refine va_get (D := G) (ci := 9) (v := .ref (B_t 4)) (C := RX10) (T := TX10) (N := 15) hx hb hts inX10 hown hK hP 0 rfl rfl 4 (by decide) hf31 (fun _ h9 => h9) rfl dX10_colours_36 ?_
    refine mc_vV ⟨hx, hb, hml, hown, hts⟩ hK hE hA hP hD hS (c_X0_tally l G Y tF H.size (B_t 5) (B_t 0) (B_t 2) (B_t 4) B_t_braid B_t_current B_t_contrary B_t_twisting t_braid_width t_braid_length t_braid_ahead t_braid_now t_braid_tallies t_braid_word t_current_n t_current_cells t_contrary_n_20 t_contrary_cells_20 t_twisting_modulus t_twisting_values h) (cwV 3 hts gX10_colours_X0_tally rfl rfl rfl (by decide +kernel) ⟨Nat.le_trans (by decide) hRf, Nat.le_trans (by decide) hRl⟩) (fun u => (w_X10_colours Y h_t B_t B_t_braid B_t_contrary B_t_current B_t_twisting t_toldCount t_braid_width t_braid_length u.1 u.2.1 u.2.2 t_braid_word t_contrary_n_20 t_contrary_cells_20 t_current_n t_current_cells t_twisting_modulus t_twisting_values)) [1, 2, 3, 4, 5, 8, 9, 6, 7, 10, 11] [0] [0, 1, 2, 3, 4, 5, 8, 9, 6, 7, 10, 11] rfl rfl rfl rfl (by decide) (fun _ => rfl) rfl 1 0 rfl rfl rfl rfl hl.1 rfl (Nat.le_of_ble_eq_true rfl) dX10_colours_39 (fun u H locs h hP hD hS => ?_)
    obtain ⟨t_braid_ahead_39, t_braid_now_39, t_braid_tallies_39⟩ := u
    try dsimp only at h
    have hP : va_P G vwCl (w_X10_colours Y h_t B_t B_t_braid B_t_contrary B_t_current B_t_twisting t_toldCount t_braid_width t_braid_length t_braid_ahead_39 t_braid_now_39 t_braid_tallies_39 t_braid_word t_contrary_n_20 t_contrary_cells_20 t_current_n t_current_cells t_twisting_modulus t_twisting_values) H := hP
    have hD : va_D A (w_X10_colours Y h_t B_t B_t_braid B_t_contrary B_t_current B_t_twisting t_toldCount t_braid_width t_braid_length t_braid_ahead_39 t_braid_now_39 t_braid_tallies_39 t_braid_word t_contrary_n_20 t_contrary_cells_20 t_current_n t_current_cells t_twisting_modulus t_twisting_values) := hD
    refine lv_iconst (v := 0) hx hb dX10_colours_42 (by decide) ?_
    refine lv_istore_n (lv' := [(1, .int (0 : Int32)), (0, .ref h_t)]) hx hb dX10_colours_43 rfl hl (by decide) rfl (fun ls hl => ?_)
    refine lv_iconst (v := 0) hx hb dX10_colours_44 (by decide) ?_
    refine lv_istore_n (lv' := [(2, .int (0 : Int32)), (1, .int (0 : Int32)), (0, .ref h_t)]) hx hb dX10_colours_45 rfl hl (by decide) rfl (fun ls hl => ?_)
    obtain ⟨I46, m46, hI46, hB46⟩ := h
    have L46 : ∀ (t_braid_ahead : Nat → Int32) (t_braid_now : Nat → Int32) (t_braid_tallies : Nat → Int32) (t_contrary_n : Int32) (t_contrary_cells : Nat → Int32) (I46 : Int32 → Int32 → Prop) (m46 : Int32 → Int32 → Nat), (∀ (x1 : Int32) (x2 : Int32), I46 x1 x2 → pX10_colours_46 t_braid_width t_braid_length t_braid_word t_current_n t_current_cells t_twisting_modulus t_twisting_values K t_braid_ahead t_braid_now t_braid_tallies t_contrary_n t_contrary_cells x1 x2 (fun x1' x2' => I46 x1' x2' ∧ m46 x1' x2' < m46 x1 x2)) → ∀ (n : Nat) (x1 : Int32) (x2 : Int32) (H : Heap) (locs : List Loc) (ls : Array Slot), I46 x1 x2 → m46 x1 x2 < n → va_P G vwCl (w_X10_colours Y h_t B_t B_t_braid B_t_contrary B_t_current B_t_twisting t_toldCount t_braid_width t_braid_length t_braid_ahead t_braid_now t_braid_tallies t_braid_word t_contrary_n t_contrary_cells t_current_n t_current_cells t_twisting_modulus t_twisting_values) H → va_D A (w_X10_colours Y h_t B_t B_t_braid B_t_contrary B_t_current B_t_twisting t_toldCount t_braid_width t_braid_length t_braid_ahead t_braid_now t_braid_tallies t_braid_word t_contrary_n t_contrary_cells t_current_n t_current_cells t_twisting_modulus t_twisting_values) → va_S A s.heap H locs → lv_has ls 3 [(0, .ref h_t), (1, .int x1), (2, .int x2)] → W p l e R s m args below meth c H locs 0 0 Q (F0 m 46 ls []) := by
      intro t_braid_ahead t_braid_now t_braid_tallies t_contrary_n t_contrary_cells I46 m46 hB46 n
      induction n with
      | zero => intro x1 x2 H locs ls _ hm; exact absurd hm (Nat.not_lt_zero _)
      | succ n ih =>
        intro x1 x2 H locs ls hI hm hP hD hS hl
        obtain ⟨R46, h, rec46⟩ : ∃ R46 : Int32 → Int32 → Prop, pX10_colours_46 t_braid_width t_braid_length t_braid_word t_current_n t_current_cells t_twisting_modulus t_twisting_values K t_braid_ahead t_braid_now t_braid_tallies t_contrary_n t_contrary_cells x1 x2 R46 ∧ ∀ (x1 : Int32) (x2 : Int32) (H : Heap) (locs : List Loc) (ls : Array Slot), R46 x1 x2 → va_P G vwCl (w_X10_colours Y h_t B_t B_t_braid B_t_contrary B_t_current B_t_twisting t_toldCount t_braid_width t_braid_length t_braid_ahead t_braid_now t_braid_tallies t_braid_word t_contrary_n t_contrary_cells t_current_n t_current_cells t_twisting_modulus t_twisting_values) H → va_D A (w_X10_colours Y h_t B_t B_t_braid B_t_contrary B_t_current B_t_twisting t_toldCount t_braid_width t_braid_length t_braid_ahead t_braid_now t_braid_tallies t_braid_word t_contrary_n t_contrary_cells t_current_n t_current_cells t_twisting_modulus t_twisting_values) → va_S A s.heap H locs → lv_has ls 3 [(0, .ref h_t), (1, .int x1), (2, .int x2)] → W p l e R s m args below meth c H locs 0 0 Q (F0 m 46 ls []) := ⟨_, hB46 x1 x2 hI, fun x1 x2 H locs ls hh hP hD hS hl => ih x1 x2 H locs ls hh.1 (Nat.lt_of_lt_of_le hh.2 (Nat.le_of_lt_succ hm)) hP hD hS hl⟩
        refine lv_iload_n hx hb dX10_colours_46 rfl (lv_at hl 2 rfl) ?_
        refine lv_aload_n hx hb dX10_colours_47 rfl (lv_at hl 0 rfl) ?_
        refine va_get (D := G) (ci := 9) (v := .ref (B_t 4)) (C := RX10) (T := TX10) (N := 15) hx hb hts inX10 hown hK hP 0 rfl rfl 4 (by decide) hf31 (fun _ h9 => h9) rfl dX10_colours_48 ?_
        refine va_getN (D := G) (ci := 8) (v := .int t_twisting_modulus) (C := RX9) (T := TX9) (N := 2) hx hb hts inX9 hown hK hP 10 rfl rfl 1 (by decide) (hE.nest args 1 _ rfl) (fun _ h9 => h9) rfl dX10_colours_51 ?_
        obtain ⟨ht, hf⟩ := h
        refine lv_icmp_ge (tgt := 74) hx hb dX10_colours_54 (by decide) (fun c9 => ?_) (fun c9 => ?_)
        · have h := ht c9
          refine lv_iload_n hx hb dX10_colours_74 rfl (lv_at hl 1 rfl) ?_
          exact hret x1 t_braid_ahead t_braid_now t_braid_tallies t_contrary_n t_contrary_cells H locs ls _ hP hD hS h dX10_colours_75
        · have h := hf c9
          refine lv_iload_n hx hb dX10_colours_57 rfl (lv_at hl 1 rfl) ?_
          refine lv_aload_n hx hb dX10_colours_58 rfl (lv_at hl 0 rfl) ?_
          refine va_get (D := G) (ci := 9) (v := .ref (B_t 5)) (C := RX10) (T := TX10) (N := 15) hx hb hts inX10 hown hK hP 0 rfl rfl 5 (by decide) hf38 (fun _ h9 => h9) rfl dX10_colours_59 ?_
          refine lv_iload_n hx hb dX10_colours_62 rfl (lv_at hl 2 rfl) ?_
          refine mc_iV ⟨hx, hb, hml, hown, hts⟩ hK hE hA hP hD hS (c_X0_tallied l G Y tF H.size (B_t 5) B_t_braid t_braid_width t_braid_length t_braid_tallies x2 h) (cwV 1 hts gX10_colours_X0_tallied rfl rfl rfl (by decide +kernel) ⟨Nat.le_trans (by decide) hRf, Nat.le_trans (by decide) hRl⟩) (fun u => (w_X10_colours Y h_t B_t B_t_braid B_t_contrary B_t_current B_t_twisting t_toldCount t_braid_width t_braid_length t_braid_ahead t_braid_now t_braid_tallies t_braid_word t_contrary_n t_contrary_cells t_current_n t_current_cells t_twisting_modulus t_twisting_values)) [1, 4] [0, 2, 3, 5, 6, 7, 8, 9, 10, 11] [0, 10, 1, 2, 11, 3, 4, 5, 6, 7, 8, 9] rfl rfl rfl rfl (by decide) (fun _ => rfl) rfl 1 0 rfl rfl rfl rfl hl.1 rfl (Nat.le_of_ble_eq_true rfl) dX10_colours_63 (fun r63 u H locs h hP hD hS => ?_)
          try dsimp only at h
          have hP : va_P G vwCl (w_X10_colours Y h_t B_t B_t_braid B_t_contrary B_t_current B_t_twisting t_toldCount t_braid_width t_braid_length t_braid_ahead t_braid_now t_braid_tallies t_braid_word t_contrary_n t_contrary_cells t_current_n t_current_cells t_twisting_modulus t_twisting_values) H := hP
          have hD : va_D A (w_X10_colours Y h_t B_t B_t_braid B_t_contrary B_t_current B_t_twisting t_toldCount t_braid_width t_braid_length t_braid_ahead t_braid_now t_braid_tallies t_braid_word t_contrary_n t_contrary_cells t_current_n t_current_cells t_twisting_modulus t_twisting_values) := hD
          refine lv_iadd hx hb dX10_colours_66 ?_
          refine lv_istore_n (lv' := [(1, .int (x1 + r63)), (0, .ref h_t), (2, .int x2)]) hx hb dX10_colours_67 rfl hl (by decide) rfl (fun ls hl => ?_)
          refine lv_iinc (v := (x2 + 1)) (lv' := [(2, .int (x2 + 1)), (1, .int (x1 + r63)), (0, .ref h_t)]) hx hb dX10_colours_68 hl (k := 2) rfl rfl (by decide) rfl (fun ls hl => ?_)
          refine lv_goto (tgt := 46) hx hb dX10_colours_71 (by decide) ?_
          exact rec46 (x1 + r63) (x2 + 1) H locs ls h hP hD hS (lv_sub hl [2, 1, 0] rfl)
    exact L46 t_braid_ahead_39 t_braid_now_39 t_braid_tallies_39 t_contrary_n_20 t_contrary_cells_20 I46 m46 hB46 _ (0 : Int32) (0 : Int32) H locs ls hI46 (Nat.lt_succ_self _) hP hD hS (lv_sub hl [2, 1, 0] rfl)
  · have h := hf c9
    refine lv_iconst (v := -1) hx hb dX10_colours_10 (by decide) ?_
    exact hret (-1 : Int32) t_braid_ahead t_braid_now t_braid_tallies t_contrary_n t_contrary_cells H locs ls _ hP hD hS h dX10_colours_11

set_option maxHeartbeats 4000000 in
set_option maxRecDepth 100000 in
theorem c_X10_colours (l : Launch) (G : va_G) (Y : Nat → ClassId) (tF sz : Nat) (h_t : Nat) (B_t : Nat → Nat) (B_t_braid : Nat → Nat) (B_t_contrary : Nat → Nat) (B_t_current : Nat → Nat) (B_t_twisting : Nat → Nat) (t_toldCount : Int32) (t_braid_width : Int32) (t_braid_length : Int32) (t_braid_ahead : Nat → Int32) (t_braid_now : Nat → Int32) (t_braid_tallies : Nat → Int32) (t_braid_word : Nat → Int32) (t_contrary_n : Int32) (t_contrary_cells : Nat → Int32) (t_current_n : Int32) (t_current_cells : Nat → Int32) (t_twisting_modulus : Int32) (t_twisting_values : Nat → Int32) {K : Int32 → (Nat → Int32) → (Nat → Int32) → (Nat → Int32) → Int32 → (Nat → Int32) → Prop} (h : pX10_colours t_braid_width t_braid_length t_braid_ahead t_braid_now t_braid_tallies t_braid_word t_contrary_n t_contrary_cells t_current_n t_current_cells t_twisting_modulus t_twisting_values K) : Met l yX10_colours wsX10_colours ({ frames := 3, cells := 0, slots := 0, locals := 75 }) (PcM G Y tF sz (w_X10_colours Y h_t B_t B_t_braid B_t_contrary B_t_current B_t_twisting t_toldCount t_braid_width t_braid_length t_braid_ahead t_braid_now t_braid_tallies t_braid_word t_contrary_n t_contrary_cells t_current_n t_current_cells t_twisting_modulus t_twisting_values) [.ref h_t]) (va_Qi (fun (r : Int32) (u : (Nat → Int32) × (Nat → Int32) × (Nat → Int32) × Int32 × (Nat → Int32)) => K r u.1 u.2.1 u.2.2.1 u.2.2.2.1 u.2.2.2.2) (fun u t => BM G Y (va_A (w_X10_colours Y h_t B_t B_t_braid B_t_contrary B_t_current B_t_twisting t_toldCount t_braid_width t_braid_length t_braid_ahead t_braid_now t_braid_tallies t_braid_word t_contrary_n t_contrary_cells t_current_n t_current_cells t_twisting_modulus t_twisting_values) sz) (w_X10_colours Y h_t B_t B_t_braid B_t_contrary B_t_current B_t_twisting t_toldCount t_braid_width t_braid_length u.1 u.2.1 u.2.2.1 t_braid_word u.2.2.2.1 u.2.2.2.2 t_current_n t_current_cells t_twisting_modulus t_twisting_values) t) (va_A (w_X10_colours Y h_t B_t B_t_braid B_t_contrary B_t_current B_t_twisting t_toldCount t_braid_width t_braid_length t_braid_ahead t_braid_now t_braid_tallies t_braid_word t_contrary_n t_contrary_cells t_current_n t_current_cells t_twisting_modulus t_twisting_values) sz)) 0 0 (va_A (w_X10_colours Y h_t B_t B_t_braid B_t_contrary B_t_current B_t_twisting t_toldCount t_braid_width t_braid_length t_braid_ahead t_braid_now t_braid_tallies t_braid_word t_contrary_n t_contrary_cells t_current_n t_current_cells t_twisting_modulus t_twisting_values) sz) := by
  refine Met.ofW (cc := cX10_colours) (maxL := 3) (ret := (some .int)) (by decide +kernel) rfl ?_
  intro p e s m args below meth c s₁ B hml hv
  obtain ⟨rfl, hsz, hP, hK, hD0, hE⟩ := hv
  have hts := atoms_spec (ws := wsX10_colours) B.pre
  have hown : s.vm.findClass RX10 = some m.cls := findClass_of_methodNamed B.named
  have hlocks := B.notSynchronized
  subst hsz
  have hD := hD0.self (sz := s.heap.size)
  exact wk_X10_colours h_t B_t B_t_braid B_t_contrary B_t_current B_t_twisting t_toldCount t_braid_width t_braid_length t_braid_ahead t_braid_now t_braid_tallies t_braid_word t_contrary_n t_contrary_cells t_current_n t_current_cells t_twisting_modulus t_twisting_values B.exec B.bytes hml hown hts hK hE (fun q h => Or.inr h) (Nat.le_refl _) (Nat.le_refl _) (fun r t_braid_ahead t_braid_now t_braid_tallies t_contrary_n t_contrary_cells H locs ls pc hP hD hS hk hd => W.iret (v := r) B.exec B.bytes B.returns (fun t ht hW => ⟨⟨r, (t_braid_ahead, t_braid_now, t_braid_tallies, t_contrary_n, t_contrary_cells), rfl, hk, by rw [ht]; exact hP, va_K.moved hW.alike hK, hD⟩, hS.F ht⟩) hS.2.2 hd) hP hD h

abbrev w_X10_sums (Y : Nat → ClassId) (h_t : Nat) (B_t : Nat → Nat) (B_t_braid : Nat → Nat) (B_t_contrary : Nat → Nat) (B_t_current : Nat → Nat) (B_t_twisting : Nat → Nat) (t_toldCount : Int32) (t_braid_width : Int32) (t_braid_length : Int32) (t_braid_ahead : Nat → Int32) (t_braid_now : Nat → Int32) (t_braid_tallies : Nat → Int32) (t_braid_word : Nat → Int32) (t_contrary_n : Int32) (t_contrary_cells : Nat → Int32) (t_current_n : Int32) (t_current_cells : Nat → Int32) (t_twisting_modulus : Int32) (t_twisting_values : Nat → Int32) : va_W := [(h_t, .inr (9, [.ref (B_t 0), .ref (B_t 1), .ref (B_t 2), .ref (B_t 3), .ref (B_t 4), .ref (B_t 5), .ref (B_t 6), .ref (B_t 7), .ref (B_t 8), .ref (B_t 9), .ref (B_t 10), .ref (B_t 11), .ref (B_t 12), .ref (B_t 13), .int t_toldCount])), ((B_t 5), .inr (0, [.ref (B_t_braid 0), .ref (B_t_braid 1), .ref (B_t_braid 2), .ref (B_t_braid 3), .int t_braid_width, .int t_braid_length])), ((B_t_braid 1), .inl (Y 0, 4, .inl t_braid_ahead)), ((B_t_braid 2), .inl (Y 0, 4, .inl t_braid_now)), ((B_t_braid 3), .inl (Y 0, 7, .inl t_braid_tallies)), ((B_t_braid 0), .inl (Y 0, 24, .inl t_braid_word)), ((B_t 2), .inr (6, [.ref (B_t_contrary 0), .int t_contrary_n])), ((B_t_contrary 0), .inl (Y 0, 64, .inl t_contrary_cells)), ((B_t 0), .inr (6, [.ref (B_t_current 0), .int t_current_n])), ((B_t_current 0), .inl (Y 0, 64, .inl t_current_cells)), ((B_t 4), .inr (8, [.ref (B_t_twisting 0), .int t_twisting_modulus])), ((B_t_twisting 0), .inl (Y 0, 64, .inl t_twisting_values))]

set_option maxHeartbeats 4000000 in
set_option maxRecDepth 100000 in
theorem wk_X10_sums {p : Program} {l : Launch} {e : Env} {R : Room} {s : State} {m : MethodId} {args : Array Value} {below : List Frame} {meth : Method} {c : Code} {Q : State → Prop} {G : va_G} {Y : Nat → ClassId} {tF : Nat} {A : Nat → Prop} (h_t : Nat) (B_t : Nat → Nat) (B_t_braid : Nat → Nat) (B_t_contrary : Nat → Nat) (B_t_current : Nat → Nat) (B_t_twisting : Nat → Nat) (t_toldCount : Int32) (t_braid_width : Int32) (t_braid_length : Int32) (t_braid_ahead : Nat → Int32) (t_braid_now : Nat → Int32) (t_braid_tallies : Nat → Int32) (t_braid_word : Nat → Int32) (t_contrary_n : Int32) (t_contrary_cells : Nat → Int32) (t_current_n : Int32) (t_current_cells : Nat → Int32) (t_twisting_modulus : Int32) (t_twisting_values : Nat → Int32) (x1 : Int32) {K : Int32 → (Nat → Int32) → (Nat → Int32) → (Nat → Int32) → Int32 → (Nat → Int32) → Prop} (hx : p.tables.exec = Jvm.exec) (hb : c.code = cX10_sums) (hml : c.maxLocals = 2) (hown : s.vm.findClass RX10 = some m.cls) (hts : ∀ w ∈ wsX10_sums, w.before args s = true) (hK : va_K G vwCl (tyL Y) s) (hE : Ev A tF s) (hA : ∀ q, s.heap.size ≤ q → A q) (hRf : 3 ≤ R.frames) (hRl : 75 ≤ R.locals) (hret : ∀ (r : Int32) (t_braid_ahead : Nat → Int32) (t_braid_now : Nat → Int32) (t_braid_tallies : Nat → Int32) (t_contrary_n : Int32) (t_contrary_cells : Nat → Int32) (H : Heap) (locs : List Loc) (ls : Array Slot) (pc : Nat), va_P G vwCl (w_X10_sums Y h_t B_t B_t_braid B_t_contrary B_t_current B_t_twisting t_toldCount t_braid_width t_braid_length t_braid_ahead t_braid_now t_braid_tallies t_braid_word t_contrary_n t_contrary_cells t_current_n t_current_cells t_twisting_modulus t_twisting_values) H → va_D A (w_X10_sums Y h_t B_t B_t_braid B_t_contrary B_t_current B_t_twisting t_toldCount t_braid_width t_braid_length t_braid_ahead t_braid_now t_braid_tallies t_braid_word t_contrary_n t_contrary_cells t_current_n t_current_cells t_twisting_modulus t_twisting_values) → va_S A s.heap H locs → K r t_braid_ahead t_braid_now t_braid_tallies t_contrary_n t_contrary_cells → decode cX10_sums pc = .ok (.ireturn, 1) → W p l e R s m args below meth c H locs 0 0 Q (F0 m pc ls [.int r])) (hP : va_P G vwCl (w_X10_sums Y h_t B_t B_t_braid B_t_contrary B_t_current B_t_twisting t_toldCount t_braid_width t_braid_length t_braid_ahead t_braid_now t_braid_tallies t_braid_word t_contrary_n t_contrary_cells t_current_n t_current_cells t_twisting_modulus t_twisting_values) s.heap) (hD : va_D A (w_X10_sums Y h_t B_t B_t_braid B_t_contrary B_t_current B_t_twisting t_toldCount t_braid_width t_braid_length t_braid_ahead t_braid_now t_braid_tallies t_braid_word t_contrary_n t_contrary_cells t_current_n t_current_cells t_twisting_modulus t_twisting_values)) (h : pX10_sums t_braid_width t_braid_length t_braid_ahead t_braid_now t_braid_tallies t_braid_word t_contrary_n t_contrary_cells t_current_n t_current_cells t_twisting_modulus t_twisting_values x1 K) : W p l e R s m args below meth c s.heap [] 0 0 Q (entryFrame m ([.ref h_t, .int x1] : List Value).toArray 2) := by
  have inX10 : ∀ w ∈ u_ws RX10 TX10 15, w ∈ wsX10_sums := by decide +kernel
  have inX9 : ∀ w ∈ u_ws RX9 TX9 2, w ∈ wsX10_sums := by decide +kernel
  have hf14 := hts (.fieldLink RX10 14 "RackBench" "current" "LRackBench$Table;") (by decide +kernel)
  have hf21 := hts (.fieldLink RX10 21 "RackBench" "contrary" "LRackBench$Table;") (by decide +kernel)
  have hf31 := hts (.fieldLink RX10 31 "RackBench" "twisting" "LRackBench$Twist;") (by decide +kernel)
  have hf38 := hts (.fieldLink RX10 38 "RackBench" "braid" "LRackBench$Braid;") (by decide +kernel)
  have hl := lv_entry ([.ref h_t, .int x1]) (n := 2) (Nat.le_of_ble_eq_true rfl)
  rw [lg_entry_eq]
  generalize (lg_sl ([.ref h_t, .int x1]) ++ List.replicate (2 - (lg_sl ([.ref h_t, .int x1])).length) Slot.unset).toArray = ls at hl ⊢
  have hl : lv_has ls 2 [(0, .ref h_t), (1, .int x1)] := hl
  generalize hH0 : s.heap = H at hP ⊢
  have hS : va_S A s.heap H [] := by rw [← hH0]; exact va_S.rf
  clear hH0
  generalize ([] : List Loc) = locs at hS ⊢
  refine lv_iload_n hx hb dX10_sums_0 rfl (lv_at hl 1 rfl) ?_
  obtain ⟨ht, hf⟩ := h
  refine lv_if_lt (tgt := 25) hx hb dX10_sums_1 (by decide) (fun c9 => ?_) (fun c9 => ?_)
  · have h := ht c9
    refine lv_iconst (v := -1) hx hb dX10_sums_25 (by decide) ?_
    exact hret (-1 : Int32) t_braid_ahead t_braid_now t_braid_tallies t_contrary_n t_contrary_cells H locs ls _ hP hD hS h dX10_sums_26
  · have h := hf c9
    refine lv_iload_n hx hb dX10_sums_4 rfl (lv_at hl 1 rfl) ?_
    refine lv_aload_n hx hb dX10_sums_5 rfl (lv_at hl 0 rfl) ?_
    refine va_get (D := G) (ci := 9) (v := .ref (B_t 4)) (C := RX10) (T := TX10) (N := 15) hx hb hts inX10 hown hK hP 0 rfl rfl 4 (by decide) hf31 (fun _ h9 => h9) rfl dX10_sums_6 ?_
    refine va_getN (D := G) (ci := 8) (v := .int t_twisting_modulus) (C := RX9) (T := TX9) (N := 2) hx hb hts inX9 hown hK hP 10 rfl rfl 1 (by decide) (hE.nest args 1 _ rfl) (fun _ h9 => h9) rfl dX10_sums_9 ?_
    obtain ⟨ht, hf⟩ := h
    refine lv_icmp_ge (tgt := 25) hx hb dX10_sums_12 (by decide) (fun c9 => ?_) (fun c9 => ?_)
    · have h := ht c9
      refine lv_iconst (v := -1) hx hb dX10_sums_25 (by decide) ?_
      exact hret (-1 : Int32) t_braid_ahead t_braid_now t_braid_tallies t_contrary_n t_contrary_cells H locs ls _ hP hD hS h dX10_sums_26
    · have h := hf c9
      refine lv_aload_n hx hb dX10_sums_15 rfl (lv_at hl 0 rfl) ?_
      refine va_get (D := G) (ci := 9) (v := .ref (B_t 0)) (C := RX10) (T := TX10) (N := 15) hx hb hts inX10 hown hK hP 0 rfl rfl 0 (by decide) hf14 (fun _ h9 => h9) rfl dX10_sums_16 ?_
      refine mc_iV ⟨hx, hb, hml, hown, hts⟩ hK hE hA hP hD hS (c_X7_isRack l G Y tF H.size (B_t 0) B_t_current t_current_n t_current_cells h) (cwV 0 hts gX10_sums_X7_isRack rfl rfl rfl (by decide +kernel) ⟨Nat.le_trans (by decide) hRf, Nat.le_trans (by decide) hRl⟩) (fun u => (w_X10_sums Y h_t B_t B_t_braid B_t_contrary B_t_current B_t_twisting t_toldCount t_braid_width t_braid_length t_braid_ahead t_braid_now t_braid_tallies t_braid_word t_contrary_n t_contrary_cells t_current_n t_current_cells t_twisting_modulus t_twisting_values)) [8, 9] [0, 1, 2, 3, 4, 5, 6, 7, 10, 11] [0, 1, 2, 3, 4, 5, 6, 7, 10, 11, 8, 9] rfl rfl rfl rfl (by decide) (fun _ => rfl) rfl 8 6 rfl rfl rfl rfl hl.1 rfl (Nat.le_of_ble_eq_true rfl) dX10_sums_19 (fun r19 u H locs h hP hD hS => ?_)
      try dsimp only at h
      have hP : va_P G vwCl (w_X10_sums Y h_t B_t B_t_braid B_t_contrary B_t_current B_t_twisting t_toldCount t_braid_width t_braid_length t_braid_ahead t_braid_now t_braid_tallies t_braid_word t_contrary_n t_contrary_cells t_current_n t_current_cells t_twisting_modulus t_twisting_values) H := hP
      have hD : va_D A (w_X10_sums Y h_t B_t B_t_braid B_t_contrary B_t_current B_t_twisting t_toldCount t_braid_width t_braid_length t_braid_ahead t_braid_now t_braid_tallies t_braid_word t_contrary_n t_contrary_cells t_current_n t_current_cells t_twisting_modulus t_twisting_values) := hD
      obtain ⟨ht, hf⟩ := h
      refine lv_if_ne (tgt := 27) hx hb dX10_sums_22 (by decide) (fun c9 => ?_) (fun c9 => ?_)
      · have h := ht c9
        refine lv_aload_n hx hb dX10_sums_27 rfl (lv_at hl 0 rfl) ?_
        refine va_get (D := G) (ci := 9) (v := .ref (B_t 2)) (C := RX10) (T := TX10) (N := 15) hx hb hts inX10 hown hK hP 0 rfl rfl 2 (by decide) hf21 (fun _ h9 => h9) rfl dX10_sums_28 ?_
        refine lv_aload_n hx hb dX10_sums_31 rfl (lv_at hl 0 rfl) ?_
        refine va_get (D := G) (ci := 9) (v := .ref (B_t 0)) (C := RX10) (T := TX10) (N := 15) hx hb hts inX10 hown hK hP 0 rfl rfl 0 (by decide) hf14 (fun _ h9 => h9) rfl dX10_sums_32 ?_
        refine mc_vV ⟨hx, hb, hml, hown, hts⟩ hK hE hA hP hD hS (c_X7_makeContrary l G Y tF H.size (B_t 2) (B_t 0) B_t_contrary B_t_current t_contrary_n t_contrary_cells t_current_n t_current_cells h) (cwV 1 hts gX10_sums_X7_makeContrary rfl rfl rfl (by decide +kernel) ⟨Nat.le_trans (by decide) hRf, Nat.le_trans (by decide) hRl⟩) (fun u => (w_X10_sums Y h_t B_t B_t_braid B_t_contrary B_t_current B_t_twisting t_toldCount t_braid_width t_braid_length t_braid_ahead t_braid_now t_braid_tallies t_braid_word u.1 u.2 t_current_n t_current_cells t_twisting_modulus t_twisting_values)) [6, 7, 8, 9] [0, 1, 2, 3, 4, 5, 10, 11] [0, 1, 2, 3, 4, 5, 8, 9, 10, 11, 6, 7] rfl rfl rfl rfl (by decide) (fun _ => rfl) rfl 6 6 rfl rfl rfl rfl hl.1 rfl (Nat.le_of_ble_eq_true rfl) dX10_sums_35 (fun u H locs h hP hD hS => ?_)
        obtain ⟨t_contrary_n_35, t_contrary_cells_35⟩ := u
        try dsimp only at h
        have hP : va_P G vwCl (w_X10_sums Y h_t B_t B_t_braid B_t_contrary B_t_current B_t_twisting t_toldCount t_braid_width t_braid_length t_braid_ahead t_braid_now t_braid_tallies t_braid_word t_contrary_n_35 t_contrary_cells_35 t_current_n t_current_cells t_twisting_modulus t_twisting_values) H := hP
        have hD : va_D A (w_X10_sums Y h_t B_t B_t_braid B_t_contrary B_t_current B_t_twisting t_toldCount t_braid_width t_braid_length t_braid_ahead t_braid_now t_braid_tallies t_braid_word t_contrary_n_35 t_contrary_cells_35 t_current_n t_current_cells t_twisting_modulus t_twisting_values) := hD
        refine lv_aload_n hx hb dX10_sums_38 rfl (lv_at hl 0 rfl) ?_
        refine va_get (D := G) (ci := 9) (v := .ref (B_t 5)) (C := RX10) (T := TX10) (N := 15) hx hb hts inX10 hown hK hP 0 rfl rfl 5 (by decide) hf38 (fun _ h9 => h9) rfl dX10_sums_39 ?_
        refine lv_aload_n hx hb dX10_sums_42 rfl (lv_at hl 0 rfl) ?_
        refine va_get (D := G) (ci := 9) (v := .ref (B_t 0)) (C := RX10) (T := TX10) (N := 15) hx hb hts inX10 hown hK hP 0 rfl rfl 0 (by decide) hf14 (fun _ h9 => h9) rfl dX10_sums_43 ?_
        refine lv_aload_n hx hb dX10_sums_46 rfl (lv_at hl 0 rfl) ?_
        refine va_get (D := G) (ci := 9) (v := .ref (B_t 2)) (C := RX10) (T := TX10) (N := 15) hx hb hts inX10 hown hK hP 0 rfl rfl 2 (by decide) hf21 (fun _ h9 => h9) rfl dX10_sums_47 ?_
        refine lv_aload_n hx hb dX10_sums_50 rfl (lv_at hl 0 rfl) ?_
        refine va_get (D := G) (ci := 9) (v := .ref (B_t 4)) (C := RX10) (T := TX10) (N := 15) hx hb hts inX10 hown hK hP 0 rfl rfl 4 (by decide) hf31 (fun _ h9 => h9) rfl dX10_sums_51 ?_
        refine mc_vV ⟨hx, hb, hml, hown, hts⟩ hK hE hA hP hD hS (c_X0_tally l G Y tF H.size (B_t 5) (B_t 0) (B_t 2) (B_t 4) B_t_braid B_t_current B_t_contrary B_t_twisting t_braid_width t_braid_length t_braid_ahead t_braid_now t_braid_tallies t_braid_word t_current_n t_current_cells t_contrary_n_35 t_contrary_cells_35 t_twisting_modulus t_twisting_values h) (cwV 3 hts gX10_sums_X0_tally rfl rfl rfl (by decide +kernel) ⟨Nat.le_trans (by decide) hRf, Nat.le_trans (by decide) hRl⟩) (fun u => (w_X10_sums Y h_t B_t B_t_braid B_t_contrary B_t_current B_t_twisting t_toldCount t_braid_width t_braid_length u.1 u.2.1 u.2.2 t_braid_word t_contrary_n_35 t_contrary_cells_35 t_current_n t_current_cells t_twisting_modulus t_twisting_values)) [1, 2, 3, 4, 5, 8, 9, 6, 7, 10, 11] [0] [0, 1, 2, 3, 4, 5, 8, 9, 6, 7, 10, 11] rfl rfl rfl rfl (by decide) (fun _ => rfl) rfl 1 0 rfl rfl rfl rfl hl.1 rfl (Nat.le_of_ble_eq_true rfl) dX10_sums_54 (fun u H locs h hP hD hS => ?_)
        obtain ⟨t_braid_ahead_54, t_braid_now_54, t_braid_tallies_54⟩ := u
        try dsimp only at h
        have hP : va_P G vwCl (w_X10_sums Y h_t B_t B_t_braid B_t_contrary B_t_current B_t_twisting t_toldCount t_braid_width t_braid_length t_braid_ahead_54 t_braid_now_54 t_braid_tallies_54 t_braid_word t_contrary_n_35 t_contrary_cells_35 t_current_n t_current_cells t_twisting_modulus t_twisting_values) H := hP
        have hD : va_D A (w_X10_sums Y h_t B_t B_t_braid B_t_contrary B_t_current B_t_twisting t_toldCount t_braid_width t_braid_length t_braid_ahead_54 t_braid_now_54 t_braid_tallies_54 t_braid_word t_contrary_n_35 t_contrary_cells_35 t_current_n t_current_cells t_twisting_modulus t_twisting_values) := hD
        refine lv_aload_n hx hb dX10_sums_57 rfl (lv_at hl 0 rfl) ?_
        refine va_get (D := G) (ci := 9) (v := .ref (B_t 5)) (C := RX10) (T := TX10) (N := 15) hx hb hts inX10 hown hK hP 0 rfl rfl 5 (by decide) hf38 (fun _ h9 => h9) rfl dX10_sums_58 ?_
        refine lv_iload_n hx hb dX10_sums_61 rfl (lv_at hl 1 rfl) ?_
        refine mc_iV ⟨hx, hb, hml, hown, hts⟩ hK hE hA hP hD hS (c_X0_tallied l G Y tF H.size (B_t 5) B_t_braid t_braid_width t_braid_length t_braid_tallies_54 x1 h) (cwV 1 hts gX10_sums_X0_tallied rfl rfl rfl (by decide +kernel) ⟨Nat.le_trans (by decide) hRf, Nat.le_trans (by decide) hRl⟩) (fun u => (w_X10_sums Y h_t B_t B_t_braid B_t_contrary B_t_current B_t_twisting t_toldCount t_braid_width t_braid_length t_braid_ahead_54 t_braid_now_54 t_braid_tallies_54 t_braid_word t_contrary_n_35 t_contrary_cells_35 t_current_n t_current_cells t_twisting_modulus t_twisting_values)) [1, 4] [0, 2, 3, 5, 6, 7, 8, 9, 10, 11] [0, 10, 1, 2, 11, 3, 4, 5, 6, 7, 8, 9] rfl rfl rfl rfl (by decide) (fun _ => rfl) rfl 1 0 rfl rfl rfl rfl hl.1 rfl (Nat.le_of_ble_eq_true rfl) dX10_sums_62 (fun r62 u H locs h hP hD hS => ?_)
        try dsimp only at h
        have hP : va_P G vwCl (w_X10_sums Y h_t B_t B_t_braid B_t_contrary B_t_current B_t_twisting t_toldCount t_braid_width t_braid_length t_braid_ahead_54 t_braid_now_54 t_braid_tallies_54 t_braid_word t_contrary_n_35 t_contrary_cells_35 t_current_n t_current_cells t_twisting_modulus t_twisting_values) H := hP
        have hD : va_D A (w_X10_sums Y h_t B_t B_t_braid B_t_contrary B_t_current B_t_twisting t_toldCount t_braid_width t_braid_length t_braid_ahead_54 t_braid_now_54 t_braid_tallies_54 t_braid_word t_contrary_n_35 t_contrary_cells_35 t_current_n t_current_cells t_twisting_modulus t_twisting_values) := hD
        exact hret r62 t_braid_ahead_54 t_braid_now_54 t_braid_tallies_54 t_contrary_n_35 t_contrary_cells_35 H locs ls _ hP hD hS h dX10_sums_65
      · have h := hf c9
        refine lv_iconst (v := -1) hx hb dX10_sums_25 (by decide) ?_
        exact hret (-1 : Int32) t_braid_ahead t_braid_now t_braid_tallies t_contrary_n t_contrary_cells H locs ls _ hP hD hS h dX10_sums_26

set_option maxHeartbeats 4000000 in
set_option maxRecDepth 100000 in
theorem c_X10_sums (l : Launch) (G : va_G) (Y : Nat → ClassId) (tF sz : Nat) (h_t : Nat) (B_t : Nat → Nat) (B_t_braid : Nat → Nat) (B_t_contrary : Nat → Nat) (B_t_current : Nat → Nat) (B_t_twisting : Nat → Nat) (t_toldCount : Int32) (t_braid_width : Int32) (t_braid_length : Int32) (t_braid_ahead : Nat → Int32) (t_braid_now : Nat → Int32) (t_braid_tallies : Nat → Int32) (t_braid_word : Nat → Int32) (t_contrary_n : Int32) (t_contrary_cells : Nat → Int32) (t_current_n : Int32) (t_current_cells : Nat → Int32) (t_twisting_modulus : Int32) (t_twisting_values : Nat → Int32) (x1 : Int32) {K : Int32 → (Nat → Int32) → (Nat → Int32) → (Nat → Int32) → Int32 → (Nat → Int32) → Prop} (h : pX10_sums t_braid_width t_braid_length t_braid_ahead t_braid_now t_braid_tallies t_braid_word t_contrary_n t_contrary_cells t_current_n t_current_cells t_twisting_modulus t_twisting_values x1 K) : Met l yX10_sums wsX10_sums ({ frames := 3, cells := 0, slots := 0, locals := 75 }) (PcM G Y tF sz (w_X10_sums Y h_t B_t B_t_braid B_t_contrary B_t_current B_t_twisting t_toldCount t_braid_width t_braid_length t_braid_ahead t_braid_now t_braid_tallies t_braid_word t_contrary_n t_contrary_cells t_current_n t_current_cells t_twisting_modulus t_twisting_values) [.ref h_t, .int x1]) (va_Qi (fun (r : Int32) (u : (Nat → Int32) × (Nat → Int32) × (Nat → Int32) × Int32 × (Nat → Int32)) => K r u.1 u.2.1 u.2.2.1 u.2.2.2.1 u.2.2.2.2) (fun u t => BM G Y (va_A (w_X10_sums Y h_t B_t B_t_braid B_t_contrary B_t_current B_t_twisting t_toldCount t_braid_width t_braid_length t_braid_ahead t_braid_now t_braid_tallies t_braid_word t_contrary_n t_contrary_cells t_current_n t_current_cells t_twisting_modulus t_twisting_values) sz) (w_X10_sums Y h_t B_t B_t_braid B_t_contrary B_t_current B_t_twisting t_toldCount t_braid_width t_braid_length u.1 u.2.1 u.2.2.1 t_braid_word u.2.2.2.1 u.2.2.2.2 t_current_n t_current_cells t_twisting_modulus t_twisting_values) t) (va_A (w_X10_sums Y h_t B_t B_t_braid B_t_contrary B_t_current B_t_twisting t_toldCount t_braid_width t_braid_length t_braid_ahead t_braid_now t_braid_tallies t_braid_word t_contrary_n t_contrary_cells t_current_n t_current_cells t_twisting_modulus t_twisting_values) sz)) 0 0 (va_A (w_X10_sums Y h_t B_t B_t_braid B_t_contrary B_t_current B_t_twisting t_toldCount t_braid_width t_braid_length t_braid_ahead t_braid_now t_braid_tallies t_braid_word t_contrary_n t_contrary_cells t_current_n t_current_cells t_twisting_modulus t_twisting_values) sz) := by
  refine Met.ofW (cc := cX10_sums) (maxL := 2) (ret := (some .int)) (by decide +kernel) rfl ?_
  intro p e s m args below meth c s₁ B hml hv
  obtain ⟨rfl, hsz, hP, hK, hD0, hE⟩ := hv
  have hts := atoms_spec (ws := wsX10_sums) B.pre
  have hown : s.vm.findClass RX10 = some m.cls := findClass_of_methodNamed B.named
  have hlocks := B.notSynchronized
  subst hsz
  have hD := hD0.self (sz := s.heap.size)
  exact wk_X10_sums h_t B_t B_t_braid B_t_contrary B_t_current B_t_twisting t_toldCount t_braid_width t_braid_length t_braid_ahead t_braid_now t_braid_tallies t_braid_word t_contrary_n t_contrary_cells t_current_n t_current_cells t_twisting_modulus t_twisting_values x1 B.exec B.bytes hml hown hts hK hE (fun q h => Or.inr h) (Nat.le_refl _) (Nat.le_refl _) (fun r t_braid_ahead t_braid_now t_braid_tallies t_contrary_n t_contrary_cells H locs ls pc hP hD hS hk hd => W.iret (v := r) B.exec B.bytes B.returns (fun t ht hW => ⟨⟨r, (t_braid_ahead, t_braid_now, t_braid_tallies, t_contrary_n, t_contrary_cells), rfl, hk, by rw [ht]; exact hP, va_K.moved hW.alike hK, hD⟩, hS.F ht⟩) hS.2.2 hd) hP hD h

abbrev w_X10_isList (Y : Nat → ClassId) : va_W := []

set_option maxHeartbeats 4000000 in
set_option maxRecDepth 100000 in
theorem wk_X10_isList {p : Program} {l : Launch} {e : Env} {R : Room} {s : State} {m : MethodId} {args : Array Value} {below : List Frame} {meth : Method} {c : Code} {Q : State → Prop} {G : va_G} {Y : Nat → ClassId} {tF : Nat} {A : Nat → Prop} (x0 : Int32) (x1 : Int32) {K : Int32 → Prop} (hx : p.tables.exec = Jvm.exec) (hb : c.code = cX10_isList) (hml : c.maxLocals = 2) (hown : s.vm.findClass RX10 = some m.cls) (hts : ∀ w ∈ wsX10_isList, w.before args s = true) (hK : va_K G vwCl (tyL Y) s) (hE : Ev A tF s) (hA : ∀ q, s.heap.size ≤ q → A q) (hRf : 0 ≤ R.frames) (hRl : 0 ≤ R.locals) (hret : ∀ (r : Int32)  (H : Heap) (locs : List Loc) (ls : Array Slot) (pc : Nat), va_P G vwCl (w_X10_isList Y) H → va_D A (w_X10_isList Y) → va_S A s.heap H locs → zb r → K r → decode cX10_isList pc = .ok (.ireturn, 1) → W p l e R s m args below meth c H locs 0 0 Q (F0 m pc ls [.int r])) (hP : va_P G vwCl (w_X10_isList Y) s.heap) (hD : va_D A (w_X10_isList Y)) (h : pX10_isList x0 x1 K) : W p l e R s m args below meth c s.heap [] 0 0 Q (entryFrame m ([.int x0, .int x1] : List Value).toArray 2) := by
  have hl := lv_entry ([.int x0, .int x1]) (n := 2) (Nat.le_of_ble_eq_true rfl)
  rw [lg_entry_eq]
  generalize (lg_sl ([.int x0, .int x1]) ++ List.replicate (2 - (lg_sl ([.int x0, .int x1])).length) Slot.unset).toArray = ls at hl ⊢
  have hl : lv_has ls 2 [(0, .int x0), (1, .int x1)] := hl
  generalize hH0 : s.heap = H at hP ⊢
  have hS : va_S A s.heap H [] := by rw [← hH0]; exact va_S.rf
  clear hH0
  generalize ([] : List Loc) = locs at hS ⊢
  have J23 : ∀  (H : Heap) (locs : List Loc) (ls : Array Slot), pX10_isList_23 K → va_P G vwCl (w_X10_isList Y) H → va_D A (w_X10_isList Y) → va_S A s.heap H locs → lv_has ls 2 [] → W p l e R s m args below meth c H locs 0 0 Q (F0 m 23 ls []) := by
    intro  H locs ls h hP hD hS hl
    refine lv_iconst (v := 0) hx hb dX10_isList_23 (by decide) ?_
    obtain ⟨hz, h⟩ := h
    exact hret (0 : Int32)  H locs ls _ hP hD hS hz h dX10_isList_24
  have J19 : ∀  (H : Heap) (locs : List Loc) (ls : Array Slot), pX10_isList_19 K → va_P G vwCl (w_X10_isList Y) H → va_D A (w_X10_isList Y) → va_S A s.heap H locs → lv_has ls 2 [] → W p l e R s m args below meth c H locs 0 0 Q (F0 m 19 ls []) := by
    intro  H locs ls h hP hD hS hl
    refine lv_iconst (v := 1) hx hb dX10_isList_19 (by decide) ?_
    refine lv_goto (tgt := 24) hx hb dX10_isList_20 (by decide) ?_
    obtain ⟨hz, h⟩ := h
    exact hret (1 : Int32)  H locs ls _ hP hD hS hz h dX10_isList_24
  refine lv_iload_n hx hb dX10_isList_0 rfl (lv_at hl 0 rfl) ?_
  refine lv_iconst (v := 1) hx hb dX10_isList_1 (by decide) ?_
  obtain ⟨ht, hf⟩ := h
  refine lv_icmp_lt (tgt := 23) hx hb dX10_isList_2 (by decide) (fun c9 => ?_) (fun c9 => ?_)
  · have h := ht c9
    exact J23  H locs ls h hP hD hS (lv_sub hl [] rfl)
  · have h := hf c9
    refine lv_iload_n hx hb dX10_isList_5 rfl (lv_at hl 0 rfl) ?_
    refine lv_iconst (v := 4) hx hb dX10_isList_6 (by decide) ?_
    obtain ⟨ht, hf⟩ := h
    refine lv_icmp_gt (tgt := 23) hx hb dX10_isList_7 (by decide) (fun c9 => ?_) (fun c9 => ?_)
    · have h := ht c9
      exact J23  H locs ls h hP hD hS (lv_sub hl [] rfl)
    · have h := hf c9
      refine lv_iload_n hx hb dX10_isList_10 rfl (lv_at hl 1 rfl) ?_
      obtain ⟨ht, hf⟩ := h
      refine lv_if_eq (tgt := 19) hx hb dX10_isList_11 (by decide) (fun c9 => ?_) (fun c9 => ?_)
      · have h := ht c9
        exact J19  H locs ls h hP hD hS (lv_sub hl [] rfl)
      · have h := hf c9
        refine lv_iload_n hx hb dX10_isList_14 rfl (lv_at hl 1 rfl) ?_
        refine lv_iconst (v := 1) hx hb dX10_isList_15 (by decide) ?_
        obtain ⟨ht, hf⟩ := h
        refine lv_icmp_ne (tgt := 23) hx hb dX10_isList_16 (by decide) (fun c9 => ?_) (fun c9 => ?_)
        · have h := ht c9
          exact J23  H locs ls h hP hD hS (lv_sub hl [] rfl)
        · have h := hf c9
          exact J19  H locs ls h hP hD hS (lv_sub hl [] rfl)

set_option maxHeartbeats 4000000 in
set_option maxRecDepth 100000 in
theorem c_X10_isList (l : Launch) (G : va_G) (Y : Nat → ClassId) (tF sz : Nat) (x0 : Int32) (x1 : Int32) {K : Int32 → Prop} (h : pX10_isList x0 x1 K) : Met l yX10_isList wsX10_isList ({ frames := 0, cells := 0, slots := 0, locals := 0 }) (PcM G Y tF sz (w_X10_isList Y) [.int x0, .int x1]) (va_Qi (fun (r : Int32) (u : Unit) => K r ) (fun u t => BM G Y (va_A (w_X10_isList Y) sz) (w_X10_isList Y) t) (va_A (w_X10_isList Y) sz)) 0 0 (va_A (w_X10_isList Y) sz) := by
  refine Met.ofW (cc := cX10_isList) (maxL := 2) (ret := (some .boolean)) (by decide +kernel) rfl ?_
  intro p e s m args below meth c s₁ B hml hv
  obtain ⟨rfl, hsz, hP, hK, hD0, hE⟩ := hv
  have hts := atoms_spec (ws := wsX10_isList) B.pre
  have hown : s.vm.findClass RX10 = some m.cls := findClass_of_methodNamed B.named
  have hlocks := B.notSynchronized
  subst hsz
  have hD := hD0.self (sz := s.heap.size)
  exact wk_X10_isList x0 x1 B.exec B.bytes hml hown hts hK hE (fun q h => Or.inr h) (Nat.le_refl _) (Nat.le_refl _) (fun r  H locs ls pc hP hD hS hz hk hd => W.zret (v := r) B.exec B.bytes B.returns hz.n (fun t ht hW => ⟨⟨r, (), rfl, hk, by rw [ht]; exact hP, va_K.moved hW.alike hK, hD⟩, hS.F ht⟩) hS.2.2 hd) hP hD h

abbrev w_X10_listed (Y : Nat → ClassId) (h_t : Nat) (B_t : Nat → Nat) (B_t_lister : Nat → Nat) (B_t_lister_racks : Nat → Nat) (B_t_lister_trial : Nat → Nat) (B_t_namer : Nat → Nat) (B_t_namer_best : Nat → Nat) (t_toldCount : Int32) (t_lister_racks : Nat → Nat → Int32) (t_lister_sizes : Nat → Int32) (t_lister_trial_n : Int32) (t_lister_trial_cells : Nat → Int32) (t_namer_named : Int32) (t_namer_best_n : Int32) (t_namer_best_cells : Nat → Int32) (t_namer_firstRow : Nat → Int32) (t_namer_names : Nat → Int32) (t_namer_things : Nat → Int32) (t_namer_twins : Nat → Int32) : va_W := [(h_t, .inr (9, [.ref (B_t 0), .ref (B_t 1), .ref (B_t 2), .ref (B_t 3), .ref (B_t 4), .ref (B_t 5), .ref (B_t 6), .ref (B_t 7), .ref (B_t 8), .ref (B_t 9), .ref (B_t 10), .ref (B_t 11), .ref (B_t 12), .ref (B_t 13), .int t_toldCount])), ((B_t 11), .inr (2, [.ref (B_t_lister 0), .ref (B_t_lister 1), .ref (B_t_lister 2)])), ((B_t_lister 0), .inl (Y 3, 5, .inr (.inr (.inr (.inr (fun i => some (B_t_lister_racks i))))))), ((B_t_lister_racks 0), .inl (Y 0, 19, .inl (t_lister_racks 0))), ((B_t_lister_racks 1), .inl (Y 0, 19, .inl (t_lister_racks 1))), ((B_t_lister_racks 2), .inl (Y 0, 19, .inl (t_lister_racks 2))), ((B_t_lister_racks 3), .inl (Y 0, 19, .inl (t_lister_racks 3))), ((B_t_lister_racks 4), .inl (Y 0, 19, .inl (t_lister_racks 4))), ((B_t_lister 1), .inl (Y 0, 5, .inl t_lister_sizes)), ((B_t_lister 2), .inr (6, [.ref (B_t_lister_trial 0), .int t_lister_trial_n])), ((B_t_lister_trial 0), .inl (Y 0, 64, .inl t_lister_trial_cells)), ((B_t 8), .inr (4, [.ref (B_t_namer 0), .ref (B_t_namer 1), .ref (B_t_namer 2), .ref (B_t_namer 3), .ref (B_t_namer 4), .int t_namer_named])), ((B_t_namer 0), .inr (6, [.ref (B_t_namer_best 0), .int t_namer_best_n])), ((B_t_namer_best 0), .inl (Y 0, 64, .inl t_namer_best_cells)), ((B_t_namer 4), .inl (Y 0, 8, .inl t_namer_firstRow)), ((B_t_namer 2), .inl (Y 0, 8, .inl t_namer_names)), ((B_t_namer 1), .inl (Y 0, 8, .inl t_namer_things)), ((B_t_namer 3), .inl (Y 0, 8, .inl t_namer_twins))]

set_option maxHeartbeats 4000000 in
set_option maxRecDepth 100000 in
theorem wk_X10_listed {p : Program} {l : Launch} {e : Env} {R : Room} {s : State} {m : MethodId} {args : Array Value} {below : List Frame} {meth : Method} {c : Code} {Q : State → Prop} {G : va_G} {Y : Nat → ClassId} {tF : Nat} {A : Nat → Prop} (h_t : Nat) (B_t : Nat → Nat) (B_t_lister : Nat → Nat) (B_t_lister_racks : Nat → Nat) (B_t_lister_trial : Nat → Nat) (B_t_namer : Nat → Nat) (B_t_namer_best : Nat → Nat) (t_toldCount : Int32) (t_lister_racks : Nat → Nat → Int32) (t_lister_sizes : Nat → Int32) (t_lister_trial_n : Int32) (t_lister_trial_cells : Nat → Int32) (t_namer_named : Int32) (t_namer_best_n : Int32) (t_namer_best_cells : Nat → Int32) (t_namer_firstRow : Nat → Int32) (t_namer_names : Nat → Int32) (t_namer_things : Nat → Int32) (t_namer_twins : Nat → Int32) (x1 : Int32) (x2 : Int32) {K : Int32 → (Nat → Nat → Int32) → (Nat → Int32) → Int32 → (Nat → Int32) → Int32 → Int32 → (Nat → Int32) → (Nat → Int32) → (Nat → Int32) → (Nat → Int32) → (Nat → Int32) → Prop} (hx : p.tables.exec = Jvm.exec) (hb : c.code = cX10_listed) (hml : c.maxLocals = 3) (hown : s.vm.findClass RX10 = some m.cls) (hts : ∀ w ∈ wsX10_listed, w.before args s = true) (hK : va_K G vwCl (tyL Y) s) (hE : Ev A tF s) (hA : ∀ q, s.heap.size ≤ q → A q) (hRf : 32 ≤ R.frames) (hRl : 746 ≤ R.locals) (hret : ∀ (r : Int32) (t_lister_racks : Nat → Nat → Int32) (t_lister_sizes : Nat → Int32) (t_lister_trial_n : Int32) (t_lister_trial_cells : Nat → Int32) (t_namer_named : Int32) (t_namer_best_n : Int32) (t_namer_best_cells : Nat → Int32) (t_namer_firstRow : Nat → Int32) (t_namer_names : Nat → Int32) (t_namer_things : Nat → Int32) (t_namer_twins : Nat → Int32) (H : Heap) (locs : List Loc) (ls : Array Slot) (pc : Nat), va_P G vwCl (w_X10_listed Y h_t B_t B_t_lister B_t_lister_racks B_t_lister_trial B_t_namer B_t_namer_best t_toldCount t_lister_racks t_lister_sizes t_lister_trial_n t_lister_trial_cells t_namer_named t_namer_best_n t_namer_best_cells t_namer_firstRow t_namer_names t_namer_things t_namer_twins) H → va_D A (w_X10_listed Y h_t B_t B_t_lister B_t_lister_racks B_t_lister_trial B_t_namer B_t_namer_best t_toldCount t_lister_racks t_lister_sizes t_lister_trial_n t_lister_trial_cells t_namer_named t_namer_best_n t_namer_best_cells t_namer_firstRow t_namer_names t_namer_things t_namer_twins) → va_S A s.heap H locs → K r t_lister_racks t_lister_sizes t_lister_trial_n t_lister_trial_cells t_namer_named t_namer_best_n t_namer_best_cells t_namer_firstRow t_namer_names t_namer_things t_namer_twins → decode cX10_listed pc = .ok (.ireturn, 1) → W p l e R s m args below meth c H locs 0 0 Q (F0 m pc ls [.int r])) (hP : va_P G vwCl (w_X10_listed Y h_t B_t B_t_lister B_t_lister_racks B_t_lister_trial B_t_namer B_t_namer_best t_toldCount t_lister_racks t_lister_sizes t_lister_trial_n t_lister_trial_cells t_namer_named t_namer_best_n t_namer_best_cells t_namer_firstRow t_namer_names t_namer_things t_namer_twins) s.heap) (hD : va_D A (w_X10_listed Y h_t B_t B_t_lister B_t_lister_racks B_t_lister_trial B_t_namer B_t_namer_best t_toldCount t_lister_racks t_lister_sizes t_lister_trial_n t_lister_trial_cells t_namer_named t_namer_best_n t_namer_best_cells t_namer_firstRow t_namer_names t_namer_things t_namer_twins)) (h : pX10_listed t_lister_racks t_lister_sizes t_lister_trial_n t_lister_trial_cells t_namer_named t_namer_best_n t_namer_best_cells t_namer_firstRow t_namer_names t_namer_things t_namer_twins x1 x2 K) : W p l e R s m args below meth c s.heap [] 0 0 Q (entryFrame m ([.ref h_t, .int x1, .int x2] : List Value).toArray 3) := by
  have inX10 : ∀ w ∈ u_ws RX10 TX10 15, w ∈ wsX10_listed := by decide +kernel
  have hf59 := hts (.fieldLink RX10 59 "RackBench" "namer" "LRackBench$Namer;") (by decide +kernel)
  have hf80 := hts (.fieldLink RX10 80 "RackBench" "lister" "LRackBench$Lister;") (by decide +kernel)
  have hl := lv_entry ([.ref h_t, .int x1, .int x2]) (n := 3) (Nat.le_of_ble_eq_true rfl)
  rw [lg_entry_eq]
  generalize (lg_sl ([.ref h_t, .int x1, .int x2]) ++ List.replicate (3 - (lg_sl ([.ref h_t, .int x1, .int x2])).length) Slot.unset).toArray = ls at hl ⊢
  have hl : lv_has ls 3 [(0, .ref h_t), (1, .int x1), (2, .int x2)] := hl
  generalize hH0 : s.heap = H at hP ⊢
  have hS : va_S A s.heap H [] := by rw [← hH0]; exact va_S.rf
  clear hH0
  generalize ([] : List Loc) = locs at hS ⊢
  have J25 : ∀ (s1 : Int32) (s2 : Int32) (t_lister_racks : Nat → Nat → Int32) (t_lister_sizes : Nat → Int32) (t_lister_trial_n : Int32) (t_lister_trial_cells : Nat → Int32) (t_namer_named : Int32) (t_namer_best_n : Int32) (t_namer_best_cells : Nat → Int32) (t_namer_firstRow : Nat → Int32) (t_namer_names : Nat → Int32) (t_namer_things : Nat → Int32) (t_namer_twins : Nat → Int32) (H : Heap) (locs : List Loc) (ls : Array Slot), pX10_listed_25 K s1 s2 t_lister_racks t_lister_sizes t_lister_trial_n t_lister_trial_cells t_namer_named t_namer_best_n t_namer_best_cells t_namer_firstRow t_namer_names t_namer_things t_namer_twins → va_P G vwCl (w_X10_listed Y h_t B_t B_t_lister B_t_lister_racks B_t_lister_trial B_t_namer B_t_namer_best t_toldCount t_lister_racks t_lister_sizes t_lister_trial_n t_lister_trial_cells t_namer_named t_namer_best_n t_namer_best_cells t_namer_firstRow t_namer_names t_namer_things t_namer_twins) H → va_D A (w_X10_listed Y h_t B_t B_t_lister B_t_lister_racks B_t_lister_trial B_t_namer B_t_namer_best t_toldCount t_lister_racks t_lister_sizes t_lister_trial_n t_lister_trial_cells t_namer_named t_namer_best_n t_namer_best_cells t_namer_firstRow t_namer_names t_namer_things t_namer_twins) → va_S A s.heap H locs → lv_has ls 3 [(0, .ref h_t)] → W p l e R s m args below meth c H locs 0 0 Q (F0 m 25 ls [.int s2, .int s1, .ref (B_t 11)]) := by
    intro s1 s2 t_lister_racks t_lister_sizes t_lister_trial_n t_lister_trial_cells t_namer_named t_namer_best_n t_namer_best_cells t_namer_firstRow t_namer_names t_namer_things t_namer_twins H locs ls h hP hD hS hl
    refine lv_aload_n hx hb dX10_listed_25 rfl (lv_at hl 0 rfl) ?_
    refine va_get (D := G) (ci := 9) (v := .ref (B_t 8)) (C := RX10) (T := TX10) (N := 15) hx hb hts inX10 hown hK hP 0 rfl rfl 8 (by decide) hf59 (fun _ h9 => h9) rfl dX10_listed_26 ?_
    refine mc_iV ⟨hx, hb, hml, hown, hts⟩ hK hE hA hP hD hS (c_X2_sizeOf l G Y tF H.size (B_t 11) (B_t 8) B_t_lister B_t_lister_racks B_t_lister_trial B_t_namer B_t_namer_best t_lister_racks t_lister_sizes t_lister_trial_n t_lister_trial_cells t_namer_named t_namer_best_n t_namer_best_cells t_namer_firstRow t_namer_names t_namer_things t_namer_twins s1 s2 h) (cwV 3 hts gX10_listed_X2_sizeOf rfl rfl rfl (by decide +kernel) ⟨Nat.le_trans (by decide) hRf, Nat.le_trans (by decide) hRl⟩) (fun u => (w_X10_listed Y h_t B_t B_t_lister B_t_lister_racks B_t_lister_trial B_t_namer B_t_namer_best t_toldCount u.1 u.2.1 u.2.2.1 u.2.2.2.1 u.2.2.2.2.1 u.2.2.2.2.2.1 u.2.2.2.2.2.2.1 u.2.2.2.2.2.2.2.1 u.2.2.2.2.2.2.2.2.1 u.2.2.2.2.2.2.2.2.2.1 u.2.2.2.2.2.2.2.2.2.2)) [1, 2, 3, 4, 5, 6, 7, 8, 9, 10, 11, 12, 13, 14, 15, 16, 17] [0] [0, 1, 2, 3, 4, 5, 6, 7, 8, 9, 10, 11, 12, 13, 14, 15, 16, 17] rfl rfl rfl rfl (by decide) (fun _ => rfl) rfl 1 2 rfl rfl rfl rfl hl.1 rfl (Nat.le_of_ble_eq_true rfl) dX10_listed_29 (fun r29 u H locs h hP hD hS => ?_)
    obtain ⟨t_lister_racks_29, t_lister_sizes_29, t_lister_trial_n_29, t_lister_trial_cells_29, t_namer_named_29, t_namer_best_n_29, t_namer_best_cells_29, t_namer_firstRow_29, t_namer_names_29, t_namer_things_29, t_namer_twins_29⟩ := u
    try dsimp only at h
    have hP : va_P G vwCl (w_X10_listed Y h_t B_t B_t_lister B_t_lister_racks B_t_lister_trial B_t_namer B_t_namer_best t_toldCount t_lister_racks_29 t_lister_sizes_29 t_lister_trial_n_29 t_lister_trial_cells_29 t_namer_named_29 t_namer_best_n_29 t_namer_best_cells_29 t_namer_firstRow_29 t_namer_names_29 t_namer_things_29 t_namer_twins_29) H := hP
    have hD : va_D A (w_X10_listed Y h_t B_t B_t_lister B_t_lister_racks B_t_lister_trial B_t_namer B_t_namer_best t_toldCount t_lister_racks_29 t_lister_sizes_29 t_lister_trial_n_29 t_lister_trial_cells_29 t_namer_named_29 t_namer_best_n_29 t_namer_best_cells_29 t_namer_firstRow_29 t_namer_names_29 t_namer_things_29 t_namer_twins_29) := hD
    exact hret r29 t_lister_racks_29 t_lister_sizes_29 t_lister_trial_n_29 t_lister_trial_cells_29 t_namer_named_29 t_namer_best_n_29 t_namer_best_cells_29 t_namer_firstRow_29 t_namer_names_29 t_namer_things_29 t_namer_twins_29 H locs ls _ hP hD hS h dX10_listed_32
  refine lv_iload_n hx hb dX10_listed_0 rfl (lv_at hl 1 rfl) ?_
  refine lv_iload_n hx hb dX10_listed_1 rfl (lv_at hl 2 rfl) ?_
  refine mc_iS ⟨hx, hb, hml, hown, hts⟩ hK hE hA hP hD hS (c_X10_isList l G Y tF H.size x1 x2 h) (va_cwS 2 hts gX10_listed_X10_isList rfl rfl rfl (by decide +kernel) ⟨Nat.le_trans (by decide) hRf, Nat.le_trans (by decide) hRl⟩) (fun u => (w_X10_listed Y h_t B_t B_t_lister B_t_lister_racks B_t_lister_trial B_t_namer B_t_namer_best t_toldCount t_lister_racks t_lister_sizes t_lister_trial_n t_lister_trial_cells t_namer_named t_namer_best_n t_namer_best_cells t_namer_firstRow t_namer_names t_namer_things t_namer_twins)) [] [0, 1, 2, 3, 4, 5, 6, 7, 8, 9, 10, 11, 12, 13, 14, 15, 16, 17] [0, 1, 2, 3, 4, 5, 6, 7, 8, 9, 10, 11, 12, 13, 14, 15, 16, 17] rfl rfl rfl rfl (by decide) (fun _ => rfl) rfl rfl hl.1 rfl (Nat.le_of_ble_eq_true rfl) dX10_listed_2 (fun r2 u H locs h hP hD hS => ?_)
  try dsimp only at h
  have hP : va_P G vwCl (w_X10_listed Y h_t B_t B_t_lister B_t_lister_racks B_t_lister_trial B_t_namer B_t_namer_best t_toldCount t_lister_racks t_lister_sizes t_lister_trial_n t_lister_trial_cells t_namer_named t_namer_best_n t_namer_best_cells t_namer_firstRow t_namer_names t_namer_things t_namer_twins) H := hP
  have hD : va_D A (w_X10_listed Y h_t B_t B_t_lister B_t_lister_racks B_t_lister_trial B_t_namer B_t_namer_best t_toldCount t_lister_racks t_lister_sizes t_lister_trial_n t_lister_trial_cells t_namer_named t_namer_best_n t_namer_best_cells t_namer_firstRow t_namer_names t_namer_things t_namer_twins) := hD
  obtain ⟨ht, hf⟩ := h
  refine lv_if_ne (tgt := 10) hx hb dX10_listed_5 (by decide) (fun c9 => ?_) (fun c9 => ?_)
  · have h := ht c9
    refine lv_aload_n hx hb dX10_listed_10 rfl (lv_at hl 0 rfl) ?_
    refine va_get (D := G) (ci := 9) (v := .ref (B_t 11)) (C := RX10) (T := TX10) (N := 15) hx hb hts inX10 hown hK hP 0 rfl rfl 11 (by decide) hf80 (fun _ h9 => h9) rfl dX10_listed_11 ?_
    refine lv_iload_n hx hb dX10_listed_14 rfl (lv_at hl 1 rfl) ?_
    refine lv_iload_n hx hb dX10_listed_15 rfl (lv_at hl 2 rfl) ?_
    refine lv_iconst (v := 1) hx hb dX10_listed_16 (by decide) ?_
    obtain ⟨ht, hf⟩ := h
    refine lv_icmp_ne (tgt := 24) hx hb dX10_listed_17 (by decide) (fun c9 => ?_) (fun c9 => ?_)
    · have h := ht c9
      refine lv_iconst (v := 0) hx hb dX10_listed_24 (by decide) ?_
      exact J25 x1 (0 : Int32) t_lister_racks t_lister_sizes t_lister_trial_n t_lister_trial_cells t_namer_named t_namer_best_n t_namer_best_cells t_namer_firstRow t_namer_names t_namer_things t_namer_twins H locs ls h hP hD hS (lv_sub hl [0] rfl)
    · have h := hf c9
      refine lv_iconst (v := 1) hx hb dX10_listed_20 (by decide) ?_
      refine lv_goto (tgt := 25) hx hb dX10_listed_21 (by decide) ?_
      exact J25 x1 (1 : Int32) t_lister_racks t_lister_sizes t_lister_trial_n t_lister_trial_cells t_namer_named t_namer_best_n t_namer_best_cells t_namer_firstRow t_namer_names t_namer_things t_namer_twins H locs ls h hP hD hS (lv_sub hl [0] rfl)
  · have h := hf c9
    refine lv_iconst (v := -1) hx hb dX10_listed_8 (by decide) ?_
    exact hret (-1 : Int32) t_lister_racks t_lister_sizes t_lister_trial_n t_lister_trial_cells t_namer_named t_namer_best_n t_namer_best_cells t_namer_firstRow t_namer_names t_namer_things t_namer_twins H locs ls _ hP hD hS h dX10_listed_9

set_option maxHeartbeats 4000000 in
set_option maxRecDepth 100000 in
theorem c_X10_listed (l : Launch) (G : va_G) (Y : Nat → ClassId) (tF sz : Nat) (h_t : Nat) (B_t : Nat → Nat) (B_t_lister : Nat → Nat) (B_t_lister_racks : Nat → Nat) (B_t_lister_trial : Nat → Nat) (B_t_namer : Nat → Nat) (B_t_namer_best : Nat → Nat) (t_toldCount : Int32) (t_lister_racks : Nat → Nat → Int32) (t_lister_sizes : Nat → Int32) (t_lister_trial_n : Int32) (t_lister_trial_cells : Nat → Int32) (t_namer_named : Int32) (t_namer_best_n : Int32) (t_namer_best_cells : Nat → Int32) (t_namer_firstRow : Nat → Int32) (t_namer_names : Nat → Int32) (t_namer_things : Nat → Int32) (t_namer_twins : Nat → Int32) (x1 : Int32) (x2 : Int32) {K : Int32 → (Nat → Nat → Int32) → (Nat → Int32) → Int32 → (Nat → Int32) → Int32 → Int32 → (Nat → Int32) → (Nat → Int32) → (Nat → Int32) → (Nat → Int32) → (Nat → Int32) → Prop} (h : pX10_listed t_lister_racks t_lister_sizes t_lister_trial_n t_lister_trial_cells t_namer_named t_namer_best_n t_namer_best_cells t_namer_firstRow t_namer_names t_namer_things t_namer_twins x1 x2 K) : Met l yX10_listed wsX10_listed ({ frames := 32, cells := 0, slots := 0, locals := 746 }) (PcM G Y tF sz (w_X10_listed Y h_t B_t B_t_lister B_t_lister_racks B_t_lister_trial B_t_namer B_t_namer_best t_toldCount t_lister_racks t_lister_sizes t_lister_trial_n t_lister_trial_cells t_namer_named t_namer_best_n t_namer_best_cells t_namer_firstRow t_namer_names t_namer_things t_namer_twins) [.ref h_t, .int x1, .int x2]) (va_Qi (fun (r : Int32) (u : (Nat → Nat → Int32) × (Nat → Int32) × Int32 × (Nat → Int32) × Int32 × Int32 × (Nat → Int32) × (Nat → Int32) × (Nat → Int32) × (Nat → Int32) × (Nat → Int32)) => K r u.1 u.2.1 u.2.2.1 u.2.2.2.1 u.2.2.2.2.1 u.2.2.2.2.2.1 u.2.2.2.2.2.2.1 u.2.2.2.2.2.2.2.1 u.2.2.2.2.2.2.2.2.1 u.2.2.2.2.2.2.2.2.2.1 u.2.2.2.2.2.2.2.2.2.2) (fun u t => BM G Y (va_A (w_X10_listed Y h_t B_t B_t_lister B_t_lister_racks B_t_lister_trial B_t_namer B_t_namer_best t_toldCount t_lister_racks t_lister_sizes t_lister_trial_n t_lister_trial_cells t_namer_named t_namer_best_n t_namer_best_cells t_namer_firstRow t_namer_names t_namer_things t_namer_twins) sz) (w_X10_listed Y h_t B_t B_t_lister B_t_lister_racks B_t_lister_trial B_t_namer B_t_namer_best t_toldCount u.1 u.2.1 u.2.2.1 u.2.2.2.1 u.2.2.2.2.1 u.2.2.2.2.2.1 u.2.2.2.2.2.2.1 u.2.2.2.2.2.2.2.1 u.2.2.2.2.2.2.2.2.1 u.2.2.2.2.2.2.2.2.2.1 u.2.2.2.2.2.2.2.2.2.2) t) (va_A (w_X10_listed Y h_t B_t B_t_lister B_t_lister_racks B_t_lister_trial B_t_namer B_t_namer_best t_toldCount t_lister_racks t_lister_sizes t_lister_trial_n t_lister_trial_cells t_namer_named t_namer_best_n t_namer_best_cells t_namer_firstRow t_namer_names t_namer_things t_namer_twins) sz)) 0 0 (va_A (w_X10_listed Y h_t B_t B_t_lister B_t_lister_racks B_t_lister_trial B_t_namer B_t_namer_best t_toldCount t_lister_racks t_lister_sizes t_lister_trial_n t_lister_trial_cells t_namer_named t_namer_best_n t_namer_best_cells t_namer_firstRow t_namer_names t_namer_things t_namer_twins) sz) := by
  refine Met.ofW (cc := cX10_listed) (maxL := 3) (ret := (some .int)) (by decide +kernel) rfl ?_
  intro p e s m args below meth c s₁ B hml hv
  obtain ⟨rfl, hsz, hP, hK, hD0, hE⟩ := hv
  have hts := atoms_spec (ws := wsX10_listed) B.pre
  have hown : s.vm.findClass RX10 = some m.cls := findClass_of_methodNamed B.named
  have hlocks := B.notSynchronized
  subst hsz
  have hD := hD0.self (sz := s.heap.size)
  exact wk_X10_listed h_t B_t B_t_lister B_t_lister_racks B_t_lister_trial B_t_namer B_t_namer_best t_toldCount t_lister_racks t_lister_sizes t_lister_trial_n t_lister_trial_cells t_namer_named t_namer_best_n t_namer_best_cells t_namer_firstRow t_namer_names t_namer_things t_namer_twins x1 x2 B.exec B.bytes hml hown hts hK hE (fun q h => Or.inr h) (Nat.le_refl _) (Nat.le_refl _) (fun r t_lister_racks t_lister_sizes t_lister_trial_n t_lister_trial_cells t_namer_named t_namer_best_n t_namer_best_cells t_namer_firstRow t_namer_names t_namer_things t_namer_twins H locs ls pc hP hD hS hk hd => W.iret (v := r) B.exec B.bytes B.returns (fun t ht hW => ⟨⟨r, (t_lister_racks, t_lister_sizes, t_lister_trial_n, t_lister_trial_cells, t_namer_named, t_namer_best_n, t_namer_best_cells, t_namer_firstRow, t_namer_names, t_namer_things, t_namer_twins), rfl, hk, by rw [ht]; exact hP, va_K.moved hW.alike hK, hD⟩, hS.F ht⟩) hS.2.2 hd) hP hD h

abbrev w_X10_pick (Y : Nat → ClassId) (h_t : Nat) (B_t : Nat → Nat) (B_t_current : Nat → Nat) (B_t_draft : Nat → Nat) (B_t_lister : Nat → Nat) (B_t_lister_racks : Nat → Nat) (B_t_lister_trial : Nat → Nat) (B_t_namer : Nat → Nat) (B_t_namer_best : Nat → Nat) (B_t_twisting : Nat → Nat) (t_toldCount : Int32) (t_current_n : Int32) (t_current_cells : Nat → Int32) (t_draft_n : Int32) (t_draft_cells : Nat → Int32) (t_lister_racks : Nat → Nat → Int32) (t_lister_sizes : Nat → Int32) (t_lister_trial_n : Int32) (t_lister_trial_cells : Nat → Int32) (t_namer_named : Int32) (t_namer_best_n : Int32) (t_namer_best_cells : Nat → Int32) (t_namer_firstRow : Nat → Int32) (t_namer_names : Nat → Int32) (t_namer_things : Nat → Int32) (t_namer_twins : Nat → Int32) (t_twisting_modulus : Int32) (t_twisting_values : Nat → Int32) : va_W := [(h_t, .inr (9, [.ref (B_t 0), .ref (B_t 1), .ref (B_t 2), .ref (B_t 3), .ref (B_t 4), .ref (B_t 5), .ref (B_t 6), .ref (B_t 7), .ref (B_t 8), .ref (B_t 9), .ref (B_t 10), .ref (B_t 11), .ref (B_t 12), .ref (B_t 13), .int t_toldCount])), ((B_t 0), .inr (6, [.ref (B_t_current 0), .int t_current_n])), ((B_t_current 0), .inl (Y 0, 64, .inl t_current_cells)), ((B_t 1), .inr (6, [.ref (B_t_draft 0), .int t_draft_n])), ((B_t_draft 0), .inl (Y 0, 64, .inl t_draft_cells)), ((B_t 11), .inr (2, [.ref (B_t_lister 0), .ref (B_t_lister 1), .ref (B_t_lister 2)])), ((B_t_lister 0), .inl (Y 3, 5, .inr (.inr (.inr (.inr (fun i => some (B_t_lister_racks i))))))), ((B_t_lister_racks 0), .inl (Y 0, 19, .inl (t_lister_racks 0))), ((B_t_lister_racks 1), .inl (Y 0, 19, .inl (t_lister_racks 1))), ((B_t_lister_racks 2), .inl (Y 0, 19, .inl (t_lister_racks 2))), ((B_t_lister_racks 3), .inl (Y 0, 19, .inl (t_lister_racks 3))), ((B_t_lister_racks 4), .inl (Y 0, 19, .inl (t_lister_racks 4))), ((B_t_lister 1), .inl (Y 0, 5, .inl t_lister_sizes)), ((B_t_lister 2), .inr (6, [.ref (B_t_lister_trial 0), .int t_lister_trial_n])), ((B_t_lister_trial 0), .inl (Y 0, 64, .inl t_lister_trial_cells)), ((B_t 8), .inr (4, [.ref (B_t_namer 0), .ref (B_t_namer 1), .ref (B_t_namer 2), .ref (B_t_namer 3), .ref (B_t_namer 4), .int t_namer_named])), ((B_t_namer 0), .inr (6, [.ref (B_t_namer_best 0), .int t_namer_best_n])), ((B_t_namer_best 0), .inl (Y 0, 64, .inl t_namer_best_cells)), ((B_t_namer 4), .inl (Y 0, 8, .inl t_namer_firstRow)), ((B_t_namer 2), .inl (Y 0, 8, .inl t_namer_names)), ((B_t_namer 1), .inl (Y 0, 8, .inl t_namer_things)), ((B_t_namer 3), .inl (Y 0, 8, .inl t_namer_twins)), ((B_t 4), .inr (8, [.ref (B_t_twisting 0), .int t_twisting_modulus])), ((B_t_twisting 0), .inl (Y 0, 64, .inl t_twisting_values))]

set_option maxHeartbeats 4000000 in
set_option maxRecDepth 100000 in
theorem wk_X10_pick {p : Program} {l : Launch} {e : Env} {R : Room} {s : State} {m : MethodId} {args : Array Value} {below : List Frame} {meth : Method} {c : Code} {Q : State → Prop} {G : va_G} {Y : Nat → ClassId} {tF : Nat} {A : Nat → Prop} (h_t : Nat) (B_t : Nat → Nat) (B_t_current : Nat → Nat) (B_t_draft : Nat → Nat) (B_t_lister : Nat → Nat) (B_t_lister_racks : Nat → Nat) (B_t_lister_trial : Nat → Nat) (B_t_namer : Nat → Nat) (B_t_namer_best : Nat → Nat) (B_t_twisting : Nat → Nat) (t_toldCount : Int32) (t_current_n : Int32) (t_current_cells : Nat → Int32) (t_draft_n : Int32) (t_draft_cells : Nat → Int32) (t_lister_racks : Nat → Nat → Int32) (t_lister_sizes : Nat → Int32) (t_lister_trial_n : Int32) (t_lister_trial_cells : Nat → Int32) (t_namer_named : Int32) (t_namer_best_n : Int32) (t_namer_best_cells : Nat → Int32) (t_namer_firstRow : Nat → Int32) (t_namer_names : Nat → Int32) (t_namer_things : Nat → Int32) (t_namer_twins : Nat → Int32) (t_twisting_modulus : Int32) (t_twisting_values : Nat → Int32) (x1 : Int32) (x2 : Int32) (x3 : Int32) {K : Int32 → Int32 → (Nat → Int32) → Int32 → (Nat → Int32) → (Nat → Nat → Int32) → (Nat → Int32) → Int32 → (Nat → Int32) → Int32 → Int32 → (Nat → Int32) → (Nat → Int32) → (Nat → Int32) → (Nat → Int32) → (Nat → Int32) → (Nat → Int32) → Prop} (hx : p.tables.exec = Jvm.exec) (hb : c.code = cX10_pick) (hml : c.maxLocals = 4) (hown : s.vm.findClass RX10 = some m.cls) (hts : ∀ w ∈ wsX10_pick, w.before args s = true) (hK : va_K G vwCl (tyL Y) s) (hE : Ev A tF s) (hA : ∀ q, s.heap.size ≤ q → A q) (hRf : 32 ≤ R.frames) (hRl : 746 ≤ R.locals) (hret : ∀ (r : Int32) (t_current_n : Int32) (t_current_cells : Nat → Int32) (t_draft_n : Int32) (t_draft_cells : Nat → Int32) (t_lister_racks : Nat → Nat → Int32) (t_lister_sizes : Nat → Int32) (t_lister_trial_n : Int32) (t_lister_trial_cells : Nat → Int32) (t_namer_named : Int32) (t_namer_best_n : Int32) (t_namer_best_cells : Nat → Int32) (t_namer_firstRow : Nat → Int32) (t_namer_names : Nat → Int32) (t_namer_things : Nat → Int32) (t_namer_twins : Nat → Int32) (t_twisting_values : Nat → Int32) (H : Heap) (locs : List Loc) (ls : Array Slot) (pc : Nat), va_P G vwCl (w_X10_pick Y h_t B_t B_t_current B_t_draft B_t_lister B_t_lister_racks B_t_lister_trial B_t_namer B_t_namer_best B_t_twisting t_toldCount t_current_n t_current_cells t_draft_n t_draft_cells t_lister_racks t_lister_sizes t_lister_trial_n t_lister_trial_cells t_namer_named t_namer_best_n t_namer_best_cells t_namer_firstRow t_namer_names t_namer_things t_namer_twins t_twisting_modulus t_twisting_values) H → va_D A (w_X10_pick Y h_t B_t B_t_current B_t_draft B_t_lister B_t_lister_racks B_t_lister_trial B_t_namer B_t_namer_best B_t_twisting t_toldCount t_current_n t_current_cells t_draft_n t_draft_cells t_lister_racks t_lister_sizes t_lister_trial_n t_lister_trial_cells t_namer_named t_namer_best_n t_namer_best_cells t_namer_firstRow t_namer_names t_namer_things t_namer_twins t_twisting_modulus t_twisting_values) → va_S A s.heap H locs → zb r → K r t_current_n t_current_cells t_draft_n t_draft_cells t_lister_racks t_lister_sizes t_lister_trial_n t_lister_trial_cells t_namer_named t_namer_best_n t_namer_best_cells t_namer_firstRow t_namer_names t_namer_things t_namer_twins t_twisting_values → decode cX10_pick pc = .ok (.ireturn, 1) → W p l e R s m args below meth c H locs 0 0 Q (F0 m pc ls [.int r])) (hP : va_P G vwCl (w_X10_pick Y h_t B_t B_t_current B_t_draft B_t_lister B_t_lister_racks B_t_lister_trial B_t_namer B_t_namer_best B_t_twisting t_toldCount t_current_n t_current_cells t_draft_n t_draft_cells t_lister_racks t_lister_sizes t_lister_trial_n t_lister_trial_cells t_namer_named t_namer_best_n t_namer_best_cells t_namer_firstRow t_namer_names t_namer_things t_namer_twins t_twisting_modulus t_twisting_values) s.heap) (hD : va_D A (w_X10_pick Y h_t B_t B_t_current B_t_draft B_t_lister B_t_lister_racks B_t_lister_trial B_t_namer B_t_namer_best B_t_twisting t_toldCount t_current_n t_current_cells t_draft_n t_draft_cells t_lister_racks t_lister_sizes t_lister_trial_n t_lister_trial_cells t_namer_named t_namer_best_n t_namer_best_cells t_namer_firstRow t_namer_names t_namer_things t_namer_twins t_twisting_modulus t_twisting_values)) (h : pX10_pick t_current_n t_current_cells t_draft_n t_draft_cells t_lister_racks t_lister_sizes t_lister_trial_n t_lister_trial_cells t_namer_named t_namer_best_n t_namer_best_cells t_namer_firstRow t_namer_names t_namer_things t_namer_twins t_twisting_values x1 x2 x3 K) : W p l e R s m args below meth c s.heap [] 0 0 Q (entryFrame m ([.ref h_t, .int x1, .int x2, .int x3] : List Value).toArray 4) := by
  have inX10 : ∀ w ∈ u_ws RX10 TX10 15, w ∈ wsX10_pick := by decide +kernel
  have hf18 := hts (.fieldLink RX10 18 "RackBench" "draft" "LRackBench$Table;") (by decide +kernel)
  have hf59 := hts (.fieldLink RX10 59 "RackBench" "namer" "LRackBench$Namer;") (by decide +kernel)
  have hf80 := hts (.fieldLink RX10 80 "RackBench" "lister" "LRackBench$Lister;") (by decide +kernel)
  have hl := lv_entry ([.ref h_t, .int x1, .int x2, .int x3]) (n := 4) (Nat.le_of_ble_eq_true rfl)
  rw [lg_entry_eq]
  generalize (lg_sl ([.ref h_t, .int x1, .int x2, .int x3]) ++ List.replicate (4 - (lg_sl ([.ref h_t, .int x1, .int x2, .int x3])).length) Slot.unset).toArray = ls at hl ⊢
  have hl : lv_has ls 4 [(0, .ref h_t), (1, .int x1), (2, .int x2), (3, .int x3)] := hl
  generalize hH0 : s.heap = H at hP ⊢
  have hS : va_S A s.heap H [] := by rw [← hH0]; exact va_S.rf
  clear hH0
  generalize ([] : List Loc) = locs at hS ⊢
  have J55 : ∀ (x3 : Int32) (s1 : Int32) (s2 : Int32) (t_current_n : Int32) (t_current_cells : Nat → Int32) (t_draft_n : Int32) (t_draft_cells : Nat → Int32) (t_lister_racks : Nat → Nat → Int32) (t_lister_sizes : Nat → Int32) (t_lister_trial_n : Int32) (t_lister_trial_cells : Nat → Int32) (t_namer_named : Int32) (t_namer_best_n : Int32) (t_namer_best_cells : Nat → Int32) (t_namer_firstRow : Nat → Int32) (t_namer_names : Nat → Int32) (t_namer_things : Nat → Int32) (t_namer_twins : Nat → Int32) (t_twisting_values : Nat → Int32) (H : Heap) (locs : List Loc) (ls : Array Slot), pX10_pick_55 K x3 s1 s2 t_current_n t_current_cells t_draft_n t_draft_cells t_lister_racks t_lister_sizes t_lister_trial_n t_lister_trial_cells t_namer_named t_namer_best_n t_namer_best_cells t_namer_firstRow t_namer_names t_namer_things t_namer_twins t_twisting_values → va_P G vwCl (w_X10_pick Y h_t B_t B_t_current B_t_draft B_t_lister B_t_lister_racks B_t_lister_trial B_t_namer B_t_namer_best B_t_twisting t_toldCount t_current_n t_current_cells t_draft_n t_draft_cells t_lister_racks t_lister_sizes t_lister_trial_n t_lister_trial_cells t_namer_named t_namer_best_n t_namer_best_cells t_namer_firstRow t_namer_names t_namer_things t_namer_twins t_twisting_modulus t_twisting_values) H → va_D A (w_X10_pick Y h_t B_t B_t_current B_t_draft B_t_lister B_t_lister_racks B_t_lister_trial B_t_namer B_t_namer_best B_t_twisting t_toldCount t_current_n t_current_cells t_draft_n t_draft_cells t_lister_racks t_lister_sizes t_lister_trial_n t_lister_trial_cells t_namer_named t_namer_best_n t_namer_best_cells t_namer_firstRow t_namer_names t_namer_things t_namer_twins t_twisting_modulus t_twisting_values) → va_S A s.heap H locs → lv_has ls 4 [(0, .ref h_t), (3, .int x3)] → W p l e R s m args below meth c H locs 0 0 Q (F0 m 55 ls [.int s2, .int s1, .ref (B_t 11)]) := by
    intro x3 s1 s2 t_current_n t_current_cells t_draft_n t_draft_cells t_lister_racks t_lister_sizes t_lister_trial_n t_lister_trial_cells t_namer_named t_namer_best_n t_namer_best_cells t_namer_firstRow t_namer_names t_namer_things t_namer_twins t_twisting_values H locs ls h hP hD hS hl
    refine lv_iload_n hx hb dX10_pick_55 rfl (lv_at hl 1 rfl) ?_
    refine lv_aload_n hx hb dX10_pick_56 rfl (lv_at hl 0 rfl) ?_
    refine va_get (D := G) (ci := 9) (v := .ref (B_t 1)) (C := RX10) (T := TX10) (N := 15) hx hb hts inX10 hown hK hP 0 rfl rfl 1 (by decide) hf18 (fun _ h9 => h9) rfl dX10_pick_57 ?_
    refine mc_vV ⟨hx, hb, hml, hown, hts⟩ hK hE hA hP hD hS (c_X2_unpack l G Y tF H.size (B_t 11) (B_t 1) B_t_lister B_t_lister_racks B_t_draft t_lister_racks t_lister_sizes t_draft_n t_draft_cells s1 s2 x3 h) (cwV 4 hts gX10_pick_X2_unpack rfl rfl rfl (by decide +kernel) ⟨Nat.le_trans (by decide) hRf, Nat.le_trans (by decide) hRl⟩) (fun u => (w_X10_pick Y h_t B_t B_t_current B_t_draft B_t_lister B_t_lister_racks B_t_lister_trial B_t_namer B_t_namer_best B_t_twisting t_toldCount t_current_n t_current_cells u.1 u.2 t_lister_racks t_lister_sizes t_lister_trial_n t_lister_trial_cells t_namer_named t_namer_best_n t_namer_best_cells t_namer_firstRow t_namer_names t_namer_things t_namer_twins t_twisting_modulus t_twisting_values)) [5, 6, 7, 8, 9, 10, 11, 12, 3, 4] [0, 1, 2, 13, 14, 15, 16, 17, 18, 19, 20, 21, 22, 23] [0, 1, 2, 22, 23, 14, 15, 16, 17, 18, 19, 20, 21, 3, 4, 5, 6, 7, 8, 9, 10, 11, 12, 13] rfl rfl rfl rfl (by decide) (fun _ => rfl) rfl 5 2 rfl rfl rfl rfl hl.1 rfl (Nat.le_of_ble_eq_true rfl) dX10_pick_60 (fun u H locs h hP hD hS => ?_)
    obtain ⟨t_draft_n_60, t_draft_cells_60⟩ := u
    try dsimp only at h
    have hP : va_P G vwCl (w_X10_pick Y h_t B_t B_t_current B_t_draft B_t_lister B_t_lister_racks B_t_lister_trial B_t_namer B_t_namer_best B_t_twisting t_toldCount t_current_n t_current_cells t_draft_n_60 t_draft_cells_60 t_lister_racks t_lister_sizes t_lister_trial_n t_lister_trial_cells t_namer_named t_namer_best_n t_namer_best_cells t_namer_firstRow t_namer_names t_namer_things t_namer_twins t_twisting_modulus t_twisting_values) H := hP
    have hD : va_D A (w_X10_pick Y h_t B_t B_t_current B_t_draft B_t_lister B_t_lister_racks B_t_lister_trial B_t_namer B_t_namer_best B_t_twisting t_toldCount t_current_n t_current_cells t_draft_n_60 t_draft_cells_60 t_lister_racks t_lister_sizes t_lister_trial_n t_lister_trial_cells t_namer_named t_namer_best_n t_namer_best_cells t_namer_firstRow t_namer_names t_namer_things t_namer_twins t_twisting_modulus t_twisting_values) := hD
    refine lv_aload_n hx hb dX10_pick_63 rfl (lv_at hl 0 rfl) ?_
    refine mc_iV ⟨hx, hb, hml, hown, hts⟩ hK hE hA hP hD hS (c_X10_adoptDraft l G Y tF H.size h_t B_t B_t_current B_t_draft B_t_twisting t_toldCount t_current_n t_current_cells t_draft_n_60 t_draft_cells_60 t_twisting_modulus t_twisting_values h) (cwV 0 hts gX10_pick_X10_adoptDraft rfl rfl rfl (by decide +kernel) ⟨Nat.le_trans (by decide) hRf, Nat.le_trans (by decide) hRl⟩) (fun u => (w_X10_pick Y h_t B_t B_t_current B_t_draft B_t_lister B_t_lister_racks B_t_lister_trial B_t_namer B_t_namer_best B_t_twisting t_toldCount u.1 u.2.1 t_draft_n_60 t_draft_cells_60 t_lister_racks t_lister_sizes t_lister_trial_n t_lister_trial_cells t_namer_named t_namer_best_n t_namer_best_cells t_namer_firstRow t_namer_names t_namer_things t_namer_twins t_twisting_modulus u.2.2)) [0, 1, 2, 3, 4, 22, 23] [5, 6, 7, 8, 9, 10, 11, 12, 13, 14, 15, 16, 17, 18, 19, 20, 21] [17, 18, 19, 20, 21, 0, 1, 2, 3, 4, 5, 6, 7, 8, 9, 10, 11, 12, 13, 14, 15, 16, 22, 23] rfl rfl rfl rfl (by decide) (fun _ => rfl) rfl 0 9 rfl rfl rfl rfl hl.1 rfl (Nat.le_of_ble_eq_true rfl) dX10_pick_64 (fun r64 u H locs h hP hD hS => ?_)
    obtain ⟨t_current_n_64, t_current_cells_64, t_twisting_values_64⟩ := u
    try dsimp only at h
    have hP : va_P G vwCl (w_X10_pick Y h_t B_t B_t_current B_t_draft B_t_lister B_t_lister_racks B_t_lister_trial B_t_namer B_t_namer_best B_t_twisting t_toldCount t_current_n_64 t_current_cells_64 t_draft_n_60 t_draft_cells_60 t_lister_racks t_lister_sizes t_lister_trial_n t_lister_trial_cells t_namer_named t_namer_best_n t_namer_best_cells t_namer_firstRow t_namer_names t_namer_things t_namer_twins t_twisting_modulus t_twisting_values_64) H := hP
    have hD : va_D A (w_X10_pick Y h_t B_t B_t_current B_t_draft B_t_lister B_t_lister_racks B_t_lister_trial B_t_namer B_t_namer_best B_t_twisting t_toldCount t_current_n_64 t_current_cells_64 t_draft_n_60 t_draft_cells_60 t_lister_racks t_lister_sizes t_lister_trial_n t_lister_trial_cells t_namer_named t_namer_best_n t_namer_best_cells t_namer_firstRow t_namer_names t_namer_things t_namer_twins t_twisting_modulus t_twisting_values_64) := hD
    refine lv_pop hx hb dX10_pick_67 rfl ?_
    refine lv_iconst (v := 1) hx hb dX10_pick_68 (by decide) ?_
    obtain ⟨hz, h⟩ := h
    exact hret (1 : Int32) t_current_n_64 t_current_cells_64 t_draft_n_60 t_draft_cells_60 t_lister_racks t_lister_sizes t_lister_trial_n t_lister_trial_cells t_namer_named t_namer_best_n t_namer_best_cells t_namer_firstRow t_namer_names t_namer_things t_namer_twins t_twisting_values_64 H locs ls _ hP hD hS hz h dX10_pick_69
  have J28 : ∀ (x1 : Int32) (x2 : Int32) (x3 : Int32) (s0 : Int32) (s2 : Int32) (s3 : Int32) (t_current_n : Int32) (t_current_cells : Nat → Int32) (t_draft_n : Int32) (t_draft_cells : Nat → Int32) (t_lister_racks : Nat → Nat → Int32) (t_lister_sizes : Nat → Int32) (t_lister_trial_n : Int32) (t_lister_trial_cells : Nat → Int32) (t_namer_named : Int32) (t_namer_best_n : Int32) (t_namer_best_cells : Nat → Int32) (t_namer_firstRow : Nat → Int32) (t_namer_names : Nat → Int32) (t_namer_things : Nat → Int32) (t_namer_twins : Nat → Int32) (t_twisting_values : Nat → Int32) (H : Heap) (locs : List Loc) (ls : Array Slot), pX10_pick_28 K x1 x2 x3 s0 s2 s3 t_current_n t_current_cells t_draft_n t_draft_cells t_lister_racks t_lister_sizes t_lister_trial_n t_lister_trial_cells t_namer_named t_namer_best_n t_namer_best_cells t_namer_firstRow t_namer_names t_namer_things t_namer_twins t_twisting_values → va_P G vwCl (w_X10_pick Y h_t B_t B_t_current B_t_draft B_t_lister B_t_lister_racks B_t_lister_trial B_t_namer B_t_namer_best B_t_twisting t_toldCount t_current_n t_current_cells t_draft_n t_draft_cells t_lister_racks t_lister_sizes t_lister_trial_n t_lister_trial_cells t_namer_named t_namer_best_n t_namer_best_cells t_namer_firstRow t_namer_names t_namer_things t_namer_twins t_twisting_modulus t_twisting_values) H → va_D A (w_X10_pick Y h_t B_t B_t_current B_t_draft B_t_lister B_t_lister_racks B_t_lister_trial B_t_namer B_t_namer_best B_t_twisting t_toldCount t_current_n t_current_cells t_draft_n t_draft_cells t_lister_racks t_lister_sizes t_lister_trial_n t_lister_trial_cells t_namer_named t_namer_best_n t_namer_best_cells t_namer_firstRow t_namer_names t_namer_things t_namer_twins t_twisting_modulus t_twisting_values) → va_S A s.heap H locs → lv_has ls 4 [(0, .ref h_t), (1, .int x1), (2, .int x2), (3, .int x3)] → W p l e R s m args below meth c H locs 0 0 Q (F0 m 28 ls [.int s3, .int s2, .ref (B_t 11), .int s0]) := by
    intro x1 x2 x3 s0 s2 s3 t_current_n t_current_cells t_draft_n t_draft_cells t_lister_racks t_lister_sizes t_lister_trial_n t_lister_trial_cells t_namer_named t_namer_best_n t_namer_best_cells t_namer_firstRow t_namer_names t_namer_things t_namer_twins t_twisting_values H locs ls h hP hD hS hl
    refine lv_aload_n hx hb dX10_pick_28 rfl (lv_at hl 0 rfl) ?_
    refine va_get (D := G) (ci := 9) (v := .ref (B_t 8)) (C := RX10) (T := TX10) (N := 15) hx hb hts inX10 hown hK hP 0 rfl rfl 8 (by decide) hf59 (fun _ h9 => h9) rfl dX10_pick_29 ?_
    refine mc_iV ⟨hx, hb, hml, hown, hts⟩ hK hE hA hP hD hS (c_X2_sizeOf l G Y tF H.size (B_t 11) (B_t 8) B_t_lister B_t_lister_racks B_t_lister_trial B_t_namer B_t_namer_best t_lister_racks t_lister_sizes t_lister_trial_n t_lister_trial_cells t_namer_named t_namer_best_n t_namer_best_cells t_namer_firstRow t_namer_names t_namer_things t_namer_twins s2 s3 h) (cwV 3 hts gX10_pick_X2_sizeOf rfl rfl rfl (by decide +kernel) ⟨Nat.le_trans (by decide) hRf, Nat.le_trans (by decide) hRl⟩) (fun u => (w_X10_pick Y h_t B_t B_t_current B_t_draft B_t_lister B_t_lister_racks B_t_lister_trial B_t_namer B_t_namer_best B_t_twisting t_toldCount t_current_n t_current_cells t_draft_n t_draft_cells u.1 u.2.1 u.2.2.1 u.2.2.2.1 u.2.2.2.2.1 u.2.2.2.2.2.1 u.2.2.2.2.2.2.1 u.2.2.2.2.2.2.2.1 u.2.2.2.2.2.2.2.2.1 u.2.2.2.2.2.2.2.2.2.1 u.2.2.2.2.2.2.2.2.2.2 t_twisting_modulus t_twisting_values)) [5, 6, 7, 8, 9, 10, 11, 12, 13, 14, 15, 16, 17, 18, 19, 20, 21] [0, 1, 2, 3, 4, 22, 23] [0, 1, 2, 3, 4, 7, 8, 9, 10, 11, 12, 13, 14, 15, 16, 17, 18, 19, 20, 21, 22, 23, 5, 6] rfl rfl rfl rfl (by decide) (fun _ => rfl) rfl 5 2 rfl rfl rfl rfl hl.1 rfl (Nat.le_of_ble_eq_true rfl) dX10_pick_32 (fun r32 u H locs h hP hD hS => ?_)
    obtain ⟨t_lister_racks_32, t_lister_sizes_32, t_lister_trial_n_32, t_lister_trial_cells_32, t_namer_named_32, t_namer_best_n_32, t_namer_best_cells_32, t_namer_firstRow_32, t_namer_names_32, t_namer_things_32, t_namer_twins_32⟩ := u
    try dsimp only at h
    have hP : va_P G vwCl (w_X10_pick Y h_t B_t B_t_current B_t_draft B_t_lister B_t_lister_racks B_t_lister_trial B_t_namer B_t_namer_best B_t_twisting t_toldCount t_current_n t_current_cells t_draft_n t_draft_cells t_lister_racks_32 t_lister_sizes_32 t_lister_trial_n_32 t_lister_trial_cells_32 t_namer_named_32 t_namer_best_n_32 t_namer_best_cells_32 t_namer_firstRow_32 t_namer_names_32 t_namer_things_32 t_namer_twins_32 t_twisting_modulus t_twisting_values) H := hP
    have hD : va_D A (w_X10_pick Y h_t B_t B_t_current B_t_draft B_t_lister B_t_lister_racks B_t_lister_trial B_t_namer B_t_namer_best B_t_twisting t_toldCount t_current_n t_current_cells t_draft_n t_draft_cells t_lister_racks_32 t_lister_sizes_32 t_lister_trial_n_32 t_lister_trial_cells_32 t_namer_named_32 t_namer_best_n_32 t_namer_best_cells_32 t_namer_firstRow_32 t_namer_names_32 t_namer_things_32 t_namer_twins_32 t_twisting_modulus t_twisting_values) := hD
    obtain ⟨ht, hf⟩ := h
    refine lv_icmp_lt (tgt := 40) hx hb dX10_pick_35 (by decide) (fun c9 => ?_) (fun c9 => ?_)
    · have h := ht c9
      refine lv_aload_n hx hb dX10_pick_40 rfl (lv_at hl 0 rfl) ?_
      refine va_get (D := G) (ci := 9) (v := .ref (B_t 11)) (C := RX10) (T := TX10) (N := 15) hx hb hts inX10 hown hK hP 0 rfl rfl 11 (by decide) hf80 (fun _ h9 => h9) rfl dX10_pick_41 ?_
      refine lv_iload_n hx hb dX10_pick_44 rfl (lv_at hl 1 rfl) ?_
      refine lv_iload_n hx hb dX10_pick_45 rfl (lv_at hl 2 rfl) ?_
      refine lv_iconst (v := 1) hx hb dX10_pick_46 (by decide) ?_
      obtain ⟨ht, hf⟩ := h
      refine lv_icmp_ne (tgt := 54) hx hb dX10_pick_47 (by decide) (fun c9 => ?_) (fun c9 => ?_)
      · have h := ht c9
        refine lv_iconst (v := 0) hx hb dX10_pick_54 (by decide) ?_
        exact J55 x3 x1 (0 : Int32) t_current_n t_current_cells t_draft_n t_draft_cells t_lister_racks_32 t_lister_sizes_32 t_lister_trial_n_32 t_lister_trial_cells_32 t_namer_named_32 t_namer_best_n_32 t_namer_best_cells_32 t_namer_firstRow_32 t_namer_names_32 t_namer_things_32 t_namer_twins_32 t_twisting_values H locs ls h hP hD hS (lv_sub hl [0, 3] rfl)
      · have h := hf c9
        refine lv_iconst (v := 1) hx hb dX10_pick_50 (by decide) ?_
        refine lv_goto (tgt := 55) hx hb dX10_pick_51 (by decide) ?_
        exact J55 x3 x1 (1 : Int32) t_current_n t_current_cells t_draft_n t_draft_cells t_lister_racks_32 t_lister_sizes_32 t_lister_trial_n_32 t_lister_trial_cells_32 t_namer_named_32 t_namer_best_n_32 t_namer_best_cells_32 t_namer_firstRow_32 t_namer_names_32 t_namer_things_32 t_namer_twins_32 t_twisting_values H locs ls h hP hD hS (lv_sub hl [0, 3] rfl)
    · have h := hf c9
      refine lv_iconst (v := 0) hx hb dX10_pick_38 (by decide) ?_
      obtain ⟨hz, h⟩ := h
      exact hret (0 : Int32) t_current_n t_current_cells t_draft_n t_draft_cells t_lister_racks_32 t_lister_sizes_32 t_lister_trial_n_32 t_lister_trial_cells_32 t_namer_named_32 t_namer_best_n_32 t_namer_best_cells_32 t_namer_firstRow_32 t_namer_names_32 t_namer_things_32 t_namer_twins_32 t_twisting_values H locs ls _ hP hD hS hz h dX10_pick_39
  refine lv_iload_n hx hb dX10_pick_0 rfl (lv_at hl 1 rfl) ?_
  refine lv_iload_n hx hb dX10_pick_1 rfl (lv_at hl 2 rfl) ?_
  refine mc_iS ⟨hx, hb, hml, hown, hts⟩ hK hE hA hP hD hS (c_X10_isList l G Y tF H.size x1 x2 h) (va_cwS 2 hts gX10_pick_X10_isList rfl rfl rfl (by decide +kernel) ⟨Nat.le_trans (by decide) hRf, Nat.le_trans (by decide) hRl⟩) (fun u => (w_X10_pick Y h_t B_t B_t_current B_t_draft B_t_lister B_t_lister_racks B_t_lister_trial B_t_namer B_t_namer_best B_t_twisting t_toldCount t_current_n t_current_cells t_draft_n t_draft_cells t_lister_racks t_lister_sizes t_lister_trial_n t_lister_trial_cells t_namer_named t_namer_best_n t_namer_best_cells t_namer_firstRow t_namer_names t_namer_things t_namer_twins t_twisting_modulus t_twisting_values)) [] [0, 1, 2, 3, 4, 5, 6, 7, 8, 9, 10, 11, 12, 13, 14, 15, 16, 17, 18, 19, 20, 21, 22, 23] [0, 1, 2, 3, 4, 5, 6, 7, 8, 9, 10, 11, 12, 13, 14, 15, 16, 17, 18, 19, 20, 21, 22, 23] rfl rfl rfl rfl (by decide) (fun _ => rfl) rfl rfl hl.1 rfl (Nat.le_of_ble_eq_true rfl) dX10_pick_2 (fun r2 u H locs h hP hD hS => ?_)
  try dsimp only at h
  have hP : va_P G vwCl (w_X10_pick Y h_t B_t B_t_current B_t_draft B_t_lister B_t_lister_racks B_t_lister_trial B_t_namer B_t_namer_best B_t_twisting t_toldCount t_current_n t_current_cells t_draft_n t_draft_cells t_lister_racks t_lister_sizes t_lister_trial_n t_lister_trial_cells t_namer_named t_namer_best_n t_namer_best_cells t_namer_firstRow t_namer_names t_namer_things t_namer_twins t_twisting_modulus t_twisting_values) H := hP
  have hD : va_D A (w_X10_pick Y h_t B_t B_t_current B_t_draft B_t_lister B_t_lister_racks B_t_lister_trial B_t_namer B_t_namer_best B_t_twisting t_toldCount t_current_n t_current_cells t_draft_n t_draft_cells t_lister_racks t_lister_sizes t_lister_trial_n t_lister_trial_cells t_namer_named t_namer_best_n t_namer_best_cells t_namer_firstRow t_namer_names t_namer_things t_namer_twins t_twisting_modulus t_twisting_values) := hD
  obtain ⟨ht, hf⟩ := h
  refine lv_if_eq (tgt := 38) hx hb dX10_pick_5 (by decide) (fun c9 => ?_) (fun c9 => ?_)
  · have h := ht c9
    refine lv_iconst (v := 0) hx hb dX10_pick_38 (by decide) ?_
    obtain ⟨hz, h⟩ := h
    exact hret (0 : Int32) t_current_n t_current_cells t_draft_n t_draft_cells t_lister_racks t_lister_sizes t_lister_trial_n t_lister_trial_cells t_namer_named t_namer_best_n t_namer_best_cells t_namer_firstRow t_namer_names t_namer_things t_namer_twins t_twisting_values H locs ls _ hP hD hS hz h dX10_pick_39
  · have h := hf c9
    refine lv_iload_n hx hb dX10_pick_8 rfl (lv_at hl 3 rfl) ?_
    obtain ⟨ht, hf⟩ := h
    refine lv_if_lt (tgt := 38) hx hb dX10_pick_9 (by decide) (fun c9 => ?_) (fun c9 => ?_)
    · have h := ht c9
      refine lv_iconst (v := 0) hx hb dX10_pick_38 (by decide) ?_
      obtain ⟨hz, h⟩ := h
      exact hret (0 : Int32) t_current_n t_current_cells t_draft_n t_draft_cells t_lister_racks t_lister_sizes t_lister_trial_n t_lister_trial_cells t_namer_named t_namer_best_n t_namer_best_cells t_namer_firstRow t_namer_names t_namer_things t_namer_twins t_twisting_values H locs ls _ hP hD hS hz h dX10_pick_39
    · have h := hf c9
      refine lv_iload_n hx hb dX10_pick_12 rfl (lv_at hl 3 rfl) ?_
      refine lv_aload_n hx hb dX10_pick_13 rfl (lv_at hl 0 rfl) ?_
      refine va_get (D := G) (ci := 9) (v := .ref (B_t 11)) (C := RX10) (T := TX10) (N := 15) hx hb hts inX10 hown hK hP 0 rfl rfl 11 (by decide) hf80 (fun _ h9 => h9) rfl dX10_pick_14 ?_
      refine lv_iload_n hx hb dX10_pick_17 rfl (lv_at hl 1 rfl) ?_
      refine lv_iload_n hx hb dX10_pick_18 rfl (lv_at hl 2 rfl) ?_
      refine lv_iconst (v := 1) hx hb dX10_pick_19 (by decide) ?_
      obtain ⟨ht, hf⟩ := h
      refine lv_icmp_ne (tgt := 27) hx hb dX10_pick_20 (by decide) (fun c9 => ?_) (fun c9 => ?_)
      · have h := ht c9
        refine lv_iconst (v := 0) hx hb dX10_pick_27 (by decide) ?_
        exact J28 x1 x2 x3 x3 x1 (0 : Int32) t_current_n t_current_cells t_draft_n t_draft_cells t_lister_racks t_lister_sizes t_lister_trial_n t_lister_trial_cells t_namer_named t_namer_best_n t_namer_best_cells t_namer_firstRow t_namer_names t_namer_things t_namer_twins t_twisting_values H locs ls h hP hD hS (lv_sub hl [0, 1, 2, 3] rfl)
      · have h := hf c9
        refine lv_iconst (v := 1) hx hb dX10_pick_23 (by decide) ?_
        refine lv_goto (tgt := 28) hx hb dX10_pick_24 (by decide) ?_
        exact J28 x1 x2 x3 x3 x1 (1 : Int32) t_current_n t_current_cells t_draft_n t_draft_cells t_lister_racks t_lister_sizes t_lister_trial_n t_lister_trial_cells t_namer_named t_namer_best_n t_namer_best_cells t_namer_firstRow t_namer_names t_namer_things t_namer_twins t_twisting_values H locs ls h hP hD hS (lv_sub hl [0, 1, 2, 3] rfl)

set_option maxHeartbeats 4000000 in
set_option maxRecDepth 100000 in
theorem c_X10_pick (l : Launch) (G : va_G) (Y : Nat → ClassId) (tF sz : Nat) (h_t : Nat) (B_t : Nat → Nat) (B_t_current : Nat → Nat) (B_t_draft : Nat → Nat) (B_t_lister : Nat → Nat) (B_t_lister_racks : Nat → Nat) (B_t_lister_trial : Nat → Nat) (B_t_namer : Nat → Nat) (B_t_namer_best : Nat → Nat) (B_t_twisting : Nat → Nat) (t_toldCount : Int32) (t_current_n : Int32) (t_current_cells : Nat → Int32) (t_draft_n : Int32) (t_draft_cells : Nat → Int32) (t_lister_racks : Nat → Nat → Int32) (t_lister_sizes : Nat → Int32) (t_lister_trial_n : Int32) (t_lister_trial_cells : Nat → Int32) (t_namer_named : Int32) (t_namer_best_n : Int32) (t_namer_best_cells : Nat → Int32) (t_namer_firstRow : Nat → Int32) (t_namer_names : Nat → Int32) (t_namer_things : Nat → Int32) (t_namer_twins : Nat → Int32) (t_twisting_modulus : Int32) (t_twisting_values : Nat → Int32) (x1 : Int32) (x2 : Int32) (x3 : Int32) {K : Int32 → Int32 → (Nat → Int32) → Int32 → (Nat → Int32) → (Nat → Nat → Int32) → (Nat → Int32) → Int32 → (Nat → Int32) → Int32 → Int32 → (Nat → Int32) → (Nat → Int32) → (Nat → Int32) → (Nat → Int32) → (Nat → Int32) → (Nat → Int32) → Prop} (h : pX10_pick t_current_n t_current_cells t_draft_n t_draft_cells t_lister_racks t_lister_sizes t_lister_trial_n t_lister_trial_cells t_namer_named t_namer_best_n t_namer_best_cells t_namer_firstRow t_namer_names t_namer_things t_namer_twins t_twisting_values x1 x2 x3 K) : Met l yX10_pick wsX10_pick ({ frames := 32, cells := 0, slots := 0, locals := 746 }) (PcM G Y tF sz (w_X10_pick Y h_t B_t B_t_current B_t_draft B_t_lister B_t_lister_racks B_t_lister_trial B_t_namer B_t_namer_best B_t_twisting t_toldCount t_current_n t_current_cells t_draft_n t_draft_cells t_lister_racks t_lister_sizes t_lister_trial_n t_lister_trial_cells t_namer_named t_namer_best_n t_namer_best_cells t_namer_firstRow t_namer_names t_namer_things t_namer_twins t_twisting_modulus t_twisting_values) [.ref h_t, .int x1, .int x2, .int x3]) (va_Qi (fun (r : Int32) (u : Int32 × (Nat → Int32) × Int32 × (Nat → Int32) × (Nat → Nat → Int32) × (Nat → Int32) × Int32 × (Nat → Int32) × Int32 × Int32 × (Nat → Int32) × (Nat → Int32) × (Nat → Int32) × (Nat → Int32) × (Nat → Int32) × (Nat → Int32)) => K r u.1 u.2.1 u.2.2.1 u.2.2.2.1 u.2.2.2.2.1 u.2.2.2.2.2.1 u.2.2.2.2.2.2.1 u.2.2.2.2.2.2.2.1 u.2.2.2.2.2.2.2.2.1 u.2.2.2.2.2.2.2.2.2.1 u.2.2.2.2.2.2.2.2.2.2.1 u.2.2.2.2.2.2.2.2.2.2.2.1 u.2.2.2.2.2.2.2.2.2.2.2.2.1 u.2.2.2.2.2.2.2.2.2.2.2.2.2.1 u.2.2.2.2.2.2.2.2.2.2.2.2.2.2.1 u.2.2.2.2.2.2.2.2.2.2.2.2.2.2.2) (fun u t => BM G Y (va_A (w_X10_pick Y h_t B_t B_t_current B_t_draft B_t_lister B_t_lister_racks B_t_lister_trial B_t_namer B_t_namer_best B_t_twisting t_toldCount t_current_n t_current_cells t_draft_n t_draft_cells t_lister_racks t_lister_sizes t_lister_trial_n t_lister_trial_cells t_namer_named t_namer_best_n t_namer_best_cells t_namer_firstRow t_namer_names t_namer_things t_namer_twins t_twisting_modulus t_twisting_values) sz) (w_X10_pick Y h_t B_t B_t_current B_t_draft B_t_lister B_t_lister_racks B_t_lister_trial B_t_namer B_t_namer_best B_t_twisting t_toldCount u.1 u.2.1 u.2.2.1 u.2.2.2.1 u.2.2.2.2.1 u.2.2.2.2.2.1 u.2.2.2.2.2.2.1 u.2.2.2.2.2.2.2.1 u.2.2.2.2.2.2.2.2.1 u.2.2.2.2.2.2.2.2.2.1 u.2.2.2.2.2.2.2.2.2.2.1 u.2.2.2.2.2.2.2.2.2.2.2.1 u.2.2.2.2.2.2.2.2.2.2.2.2.1 u.2.2.2.2.2.2.2.2.2.2.2.2.2.1 u.2.2.2.2.2.2.2.2.2.2.2.2.2.2.1 t_twisting_modulus u.2.2.2.2.2.2.2.2.2.2.2.2.2.2.2) t) (va_A (w_X10_pick Y h_t B_t B_t_current B_t_draft B_t_lister B_t_lister_racks B_t_lister_trial B_t_namer B_t_namer_best B_t_twisting t_toldCount t_current_n t_current_cells t_draft_n t_draft_cells t_lister_racks t_lister_sizes t_lister_trial_n t_lister_trial_cells t_namer_named t_namer_best_n t_namer_best_cells t_namer_firstRow t_namer_names t_namer_things t_namer_twins t_twisting_modulus t_twisting_values) sz)) 0 0 (va_A (w_X10_pick Y h_t B_t B_t_current B_t_draft B_t_lister B_t_lister_racks B_t_lister_trial B_t_namer B_t_namer_best B_t_twisting t_toldCount t_current_n t_current_cells t_draft_n t_draft_cells t_lister_racks t_lister_sizes t_lister_trial_n t_lister_trial_cells t_namer_named t_namer_best_n t_namer_best_cells t_namer_firstRow t_namer_names t_namer_things t_namer_twins t_twisting_modulus t_twisting_values) sz) := by
  refine Met.ofW (cc := cX10_pick) (maxL := 4) (ret := (some .boolean)) (by decide +kernel) rfl ?_
  intro p e s m args below meth c s₁ B hml hv
  obtain ⟨rfl, hsz, hP, hK, hD0, hE⟩ := hv
  have hts := atoms_spec (ws := wsX10_pick) B.pre
  have hown : s.vm.findClass RX10 = some m.cls := findClass_of_methodNamed B.named
  have hlocks := B.notSynchronized
  subst hsz
  have hD := hD0.self (sz := s.heap.size)
  exact wk_X10_pick h_t B_t B_t_current B_t_draft B_t_lister B_t_lister_racks B_t_lister_trial B_t_namer B_t_namer_best B_t_twisting t_toldCount t_current_n t_current_cells t_draft_n t_draft_cells t_lister_racks t_lister_sizes t_lister_trial_n t_lister_trial_cells t_namer_named t_namer_best_n t_namer_best_cells t_namer_firstRow t_namer_names t_namer_things t_namer_twins t_twisting_modulus t_twisting_values x1 x2 x3 B.exec B.bytes hml hown hts hK hE (fun q h => Or.inr h) (Nat.le_refl _) (Nat.le_refl _) (fun r t_current_n t_current_cells t_draft_n t_draft_cells t_lister_racks t_lister_sizes t_lister_trial_n t_lister_trial_cells t_namer_named t_namer_best_n t_namer_best_cells t_namer_firstRow t_namer_names t_namer_things t_namer_twins t_twisting_values H locs ls pc hP hD hS hz hk hd => W.zret (v := r) B.exec B.bytes B.returns hz.n (fun t ht hW => ⟨⟨r, (t_current_n, t_current_cells, t_draft_n, t_draft_cells, t_lister_racks, t_lister_sizes, t_lister_trial_n, t_lister_trial_cells, t_namer_named, t_namer_best_n, t_namer_best_cells, t_namer_firstRow, t_namer_names, t_namer_things, t_namer_twins, t_twisting_values), rfl, hk, by rw [ht]; exact hP, va_K.moved hW.alike hK, hD⟩, hS.F ht⟩) hS.2.2 hd) hP hD h
