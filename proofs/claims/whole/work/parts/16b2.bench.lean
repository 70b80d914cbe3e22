abbrev w_X10_joinTurnsOf (Y : Nat → ClassId) (h_t : Nat) (B_t : Nat → Nat) (B_t_classes : Nat → Nat) (B_t_current : Nat → Nat) (t_toldCount : Int32) (t_classes_n : Int32) (t_classes_leader : Nat → Int32) (t_current_n : Int32) (t_current_cells : Nat → Int32) : va_W := [(h_t, .inr (9, [.ref (B_t 0), .ref (B_t 1), .ref (B_t 2), .ref (B_t 3), .ref (B_t 4), .ref (B_t 5), .ref (B_t 6), .ref (B_t 7), .ref (B_t 8), .ref (B_t 9), .ref (B_t 10), .ref (B_t 11), .ref (B_t 12), .ref (B_t 13), .int t_toldCount])), ((B_t 6), .inr (1, [.ref (B_t_classes 0), .ref (B_t_classes 1), .int t_classes_n])), ((B_t_classes 0), .inl (Y 0, 8, .inl t_classes_leader)), ((B_t 0), .inr (6, [.ref (B_t_current 0), .int t_current_n])), ((B_t_current 0), .inl (Y 0, 64, .inl t_current_cells))]

set_option maxHeartbeats 20000000 in
set_option maxRecDepth 100000 in
theorem wk_X10_joinTurnsOf {p : Program} {l : Launch} {e : Env} {R : Room} {s : State} {m : MethodId} {args : Array Value} {below : List Frame} {meth : Method} {c : Code} {Q : State → Prop} {G : va_G} {Y : Nat → ClassId} {tF : Nat} {A : Nat → Prop} (h_t : Nat) (B_t : Nat → Nat) (B_t_classes : Nat → Nat) (B_t_current : Nat → Nat) (t_toldCount : Int32) (t_classes_n : Int32) (t_classes_leader : Nat → Int32) (t_current_n : Int32) (t_current_cells : Nat → Int32) (x1 : Int32) (x2 : Int32) {K : Int32 → (Nat → Int32) → Prop} (hx : p.tables.exec = Jvm.exec) (hb : c.code = cX10_joinTurnsOf) (hml : c.maxLocals = 7) (hown : s.vm.findClass RX10 = some m.cls) (hts : ∀ w ∈ wsX10_joinTurnsOf, w.before args s = true) (hK : va_K G vwCl (tyL Y) s) (hE : Ev A tF s) (hA : ∀ q, s.heap.size ≤ q → A q) (hRf : 2 ≤ R.frames) (hRl : 49 ≤ R.locals) (hret : ∀ (r : Int32) (t_classes_leader : Nat → Int32) (H : Heap) (locs : List Loc) (ls : Array Slot) (pc : Nat), va_P G vwCl (w_X10_joinTurnsOf Y h_t B_t B_t_classes B_t_current t_toldCount t_classes_n t_classes_leader t_current_n t_current_cells) H → va_D A (w_X10_joinTurnsOf Y h_t B_t B_t_classes B_t_current t_toldCount t_classes_n t_classes_leader t_current_n t_current_cells) → va_S A s.heap H locs → zb r → K r t_classes_leader → decode cX10_joinTurnsOf pc = .ok (.ireturn, 1) → W p l e R s m args below meth c H locs 0 0 Q (F0 m pc ls [.int r])) (hP : va_P G vwCl (w_X10_joinTurnsOf Y h_t B_t B_t_classes B_t_current t_toldCount t_classes_n t_classes_leader t_current_n t_current_cells) s.heap) (hD : va_D A (w_X10_joinTurnsOf Y h_t B_t B_t_classes B_t_current t_toldCount t_classes_n t_classes_leader t_current_n t_current_cells)) (h : pX10_joinTurnsOf t_classes_n t_classes_leader t_current_n t_current_cells x1 x2 K) : W p l e R s m args below meth c s.heap [] 0 0 Q (entryFrame m ([.ref h_t, .int x1, .int x2] : List Value).toArray 7) := by
  have inX10 : ∀ w ∈ u_ws RX10 TX10 15, w ∈ wsX10_joinTurnsOf := by decide +kernel
  have inX7 : ∀ w ∈ u_ws RX7 TX7 2, w ∈ wsX10_joinTurnsOf := by decide +kernel
  have hf14 := hts (.fieldLink RX10 14 "RackBench" "current" "LRackBench$Table;") (by decide +kernel)
  have hf45 := hts (.fieldLink RX10 45 "RackBench" "classes" "LRackBench$Classes;") (by decide +kernel)
  have hl := lv_entry ([.ref h_t, .int x1, .int x2]) (n := 7) (Nat.le_of_ble_eq_true rfl)
  rw [lg_entry_eq]
  generalize (lg_sl ([.ref h_t, .int x1, .int x2]) ++ List.replicate (7 - (lg_sl ([.ref h_t, .int x1, .int x2])).length) Slot.unset).toArray = ls at hl ⊢
  have hl : lv_has ls 7 [(0, .ref h_t), (1, .int x1), (2, .int x2)] := hl
  generalize hH0 : s.heap = H at hP ⊢
  have hS : va_S A s.heap H [] := by rw [← hH0]; exact va_S.rf
  clear hH0
  generalize ([] : List Loc) = locs at hS ⊢
  refine lv_iconst (v := 0) hx hb dX10_joinTurnsOf_0 (by decide) ?_
  refine lv_istore_n (lv' := [(3, .int (0 : Int32)), (0, .ref h_t), (1, .int x1), (2, .int x2)]) hx hb dX10_joinTurnsOf_1 rfl hl (by decide) rfl (fun ls hl => ?_)
  refine lv_iconst (v := 0) hx hb dX10_joinTurnsOf_2 (by decide) ?_
  refine lv_istore (lv' := [(4, .int (0 : Int32)), (3, .int (0 : Int32)), (0, .ref h_t), (1, .int x1), (2, .int x2)]) hx hb dX10_joinTurnsOf_3 hl (by decide) rfl (fun ls hl => ?_)
  obtain ⟨I5, m5, hI5, hB5⟩ := h
  have L5 : ∀ (x1 : Int32) (x2 : Int32) (I5 : Int32 → Int32 → (Nat → Int32) → Prop) (m5 : Int32 → Int32 → (Nat → Int32) → Nat), (∀ (x3 : Int32) (x4 : Int32) (t_classes_leader : Nat → Int32), I5 x3 x4 t_classes_leader → pX10_joinTurnsOf_5 t_classes_n t_current_n t_current_cells K x1 x2 x3 x4 t_classes_leader (fun x3' x4' t_classes_leader' => I5 x3' x4' t_classes_leader' ∧ m5 x3' x4' t_classes_leader' < m5 x3 x4 t_classes_leader)) → ∀ (n : Nat) (x3 : Int32) (x4 : Int32) (t_classes_leader : Nat → Int32) (H : Heap) (locs : List Loc) (ls : Array Slot), I5 x3 x4 t_classes_leader → m5 x3 x4 t_classes_leader < n → va_P G vwCl (w_X10_joinTurnsOf Y h_t B_t B_t_classes B_t_current t_toldCount t_classes_n t_classes_leader t_current_n t_current_cells) H → va_D A (w_X10_joinTurnsOf Y h_t B_t B_t_classes B_t_current t_toldCount t_classes_n t_classes_leader t_current_n t_current_cells) → va_S A s.heap H locs → lv_has ls 7 [(0, .ref h_t), (1, .int x1), (2, .int x2), (3, .int x3), (4, .int x4)] → W p l e R s m args below meth c H locs 0 0 Q (F0 m 5 ls []) := by
    intro x1 x2 I5 m5 hB5 n
    induction n with
    | zero => intro x3 x4 t_classes_leader H locs ls _ hm; exact absurd hm (Nat.not_lt_zero _)
    | succ n ih =>
      intro x3 x4 t_classes_leader H locs ls hI hm hP hD hS hl
      obtain ⟨R5, h, rec5⟩ : ∃ R5 : Int32 → Int32 → (Nat → Int32) → Prop, pX10_joinTurnsOf_5 t_classes_n t_current_n t_current_cells K x1 x2 x3 x4 t_classes_leader R5 ∧ ∀ (x3 : Int32) (x4 : Int32) (t_classes_leader : Nat → Int32) (H : Heap) (locs : List Loc) (ls : Array Slot), R5 x3 x4 t_classes_leader → va_P G vwCl (w_X10_joinTurnsOf Y h_t B_t B_t_classes B_t_current t_toldCount t_classes_n t_classes_leader t_current_n t_current_cells) H → va_D A (w_X10_joinTurnsOf Y h_t B_t B_t_classes B_t_current t_toldCount t_classes_n t_classes_leader t_current_n t_current_cells) → va_S A s.heap H locs → lv_has ls 7 [(0, .ref h_t), (1, .int x1), (2, .int x2), (3, .int x3), (4, .int x4)] → W p l e R s m args below meth c H locs 0 0 Q (F0 m 5 ls []) := ⟨_, hB5 x3 x4 t_classes_leader hI, fun x3 x4 t_classes_leader H locs ls hh hP hD hS hl => ih x3 x4 t_classes_leader H locs ls hh.1 (Nat.lt_of_lt_of_le hh.2 (Nat.le_of_lt_succ hm)) hP hD hS hl⟩
      have J89 : ∀ (x4 : Int32) (t_classes_leader : Nat → Int32) (H : Heap) (locs : List Loc) (ls : Array Slot), pX10_joinTurnsOf_89 t_classes_n t_current_n t_current_cells R5 K x1 x2 x4 t_classes_leader → va_P G vwCl (w_X10_joinTurnsOf Y h_t B_t B_t_classes B_t_current t_toldCount t_classes_n t_classes_leader t_current_n t_current_cells) H → va_D A (w_X10_joinTurnsOf Y h_t B_t B_t_classes B_t_current t_toldCount t_classes_n t_classes_leader t_current_n t_current_cells) → va_S A s.heap H locs → lv_has ls 7 [(0, .ref h_t), (1, .int x1), (2, .int x2), (4, .int x4)] → W p l e R s m args below meth c H locs 0 0 Q (F0 m 89 ls []) := by
        intro x4 t_classes_leader H locs ls h hP hD hS hl
        refine lv_iconst (v := 1) hx hb dX10_joinTurnsOf_89 (by decide) ?_
        refine lv_goto (tgt := 94) hx hb dX10_joinTurnsOf_90 (by decide) ?_
        refine lv_istore_n (lv' := [(3, .int (1 : Int32)), (0, .ref h_t), (1, .int x1), (2, .int x2), (4, .int x4)]) hx hb dX10_joinTurnsOf_94 rfl hl (by decide) rfl (fun ls hl => ?_)
        refine lv_iinc (v := (x4 + 1)) (lv' := [(4, .int (x4 + 1)), (3, .int (1 : Int32)), (0, .ref h_t), (1, .int x1), (2, .int x2)]) hx hb dX10_joinTurnsOf_95 hl (k := 4) rfl rfl (by decide) rfl (fun ls hl => ?_)
        refine lv_goto (tgt := 5) hx hb dX10_joinTurnsOf_98 (by decide) ?_
        exact rec5 (1 : Int32) (x4 + 1) t_classes_leader H locs ls h hP hD hS (lv_sub hl [2, 3, 4, 1, 0] rfl)
      refine lv_iload hx hb dX10_joinTurnsOf_5 (lv_at hl 4 rfl) ?_
      refine lv_aload_n hx hb dX10_joinTurnsOf_7 rfl (lv_at hl 0 rfl) ?_
      refine va_get (D := G) (ci := 9) (v := .ref (B_t 0)) (C := RX10) (T := TX10) (N := 15) hx hb hts inX10 hown hK hP 0 rfl rfl 0 (by decide) hf14 (fun _ h9 => h9) rfl dX10_joinTurnsOf_8 ?_
      refine va_getN (D := G) (ci := 6) (v := .int t_current_n) (C := RX7) (T := TX7) (N := 2) hx hb hts inX7 hown hK hP 3 rfl rfl 1 (by decide) (hE.nest args 0 _ rfl) (fun _ h9 => h9) rfl dX10_joinTurnsOf_11 ?_
      obtain ⟨ht, hf⟩ := h
      refine lv_icmp_ge (tgt := 101) hx hb dX10_joinTurnsOf_14 (by decide) (fun c9 => ?_) (fun c9 => ?_)
      · have h := ht c9
        refine lv_iload_n hx hb dX10_joinTurnsOf_101 rfl (lv_at hl 3 rfl) ?_
        obtain ⟨hz, h⟩ := h
        exact hret x3 t_classes_leader H locs ls _ hP hD hS hz h dX10_joinTurnsOf_102
      · have h := hf c9
        refine lv_aload_n hx hb dX10_joinTurnsOf_17 rfl (lv_at hl 0 rfl) ?_
        refine va_get (D := G) (ci := 9) (v := .ref (B_t 6)) (C := RX10) (T := TX10) (N := 15) hx hb hts inX10 hown hK hP 0 rfl rfl 6 (by decide) hf45 (fun _ h9 => h9) rfl dX10_joinTurnsOf_18 ?_
        refine lv_aload_n hx hb dX10_joinTurnsOf_21 rfl (lv_at hl 0 rfl) ?_
        refine va_get (D := G) (ci := 9) (v := .ref (B_t 0)) (C := RX10) (T := TX10) (N := 15) hx hb hts inX10 hown hK hP 0 rfl rfl 0 (by decide) hf14 (fun _ h9 => h9) rfl dX10_joinTurnsOf_22 ?_
        refine lv_iload_n hx hb dX10_joinTurnsOf_25 rfl (lv_at hl 1 rfl) ?_
        refine lv_iload hx hb dX10_joinTurnsOf_26 (lv_at hl 4 rfl) ?_
        refine mc_iV ⟨hx, hb, hml, hown, hts⟩ hK hE hA hP hD hS (c_X7_turned l G Y tF H.size (B_t 0) B_t_current t_current_n t_current_cells x1 x4 h) (cwV 2 hts gX10_joinTurnsOf_X7_turned rfl rfl rfl (by decide +kernel) ⟨Nat.le_trans (by decide) hRf, Nat.le_trans (by decide) hRl⟩) (fun u => (w_X10_joinTurnsOf Y h_t B_t B_t_classes B_t_current t_toldCount t_classes_n t_classes_leader t_current_n t_current_cells)) [3, 4] [0, 1, 2] [0, 1, 2, 3, 4] rfl rfl rfl rfl (by decide) (fun _ => rfl) rfl 3 6 rfl rfl rfl rfl hl.1 rfl (Nat.le_of_ble_eq_true rfl) dX10_joinTurnsOf_28 (fun r28 u H locs h hP hD hS => ?_)
        try dsimp only at h
        have hP : va_P G vwCl (w_X10_joinTurnsOf Y h_t B_t B_t_classes B_t_current t_toldCount t_classes_n t_classes_leader t_current_n t_current_cells) H := hP
        have hD : va_D A (w_X10_joinTurnsOf Y h_t B_t B_t_classes B_t_current t_toldCount t_classes_n t_classes_leader t_current_n t_current_cells) := hD
        refine lv_aload_n hx hb dX10_joinTurnsOf_31 rfl (lv_at hl 0 rfl) ?_
        refine va_get (D := G) (ci := 9) (v := .ref (B_t 0)) (C := RX10) (T := TX10) (N := 15) hx hb hts inX10 hown hK hP 0 rfl rfl 0 (by decide) hf14 (fun _ h9 => h9) rfl dX10_joinTurnsOf_32 ?_
        refine lv_iload_n hx hb dX10_joinTurnsOf_35 rfl (lv_at hl 2 rfl) ?_
        refine lv_iload hx hb dX10_joinTurnsOf_36 (lv_at hl 4 rfl) ?_
        refine mc_iV ⟨hx, hb, hml, hown, hts⟩ hK hE hA hP hD hS (c_X7_turned l G Y tF H.size (B_t 0) B_t_current t_current_n t_current_cells x2 x4 h) (cwV 2 hts gX10_joinTurnsOf_X7_turned rfl rfl rfl (by decide +kernel) ⟨Nat.le_trans (by decide) hRf, Nat.le_trans (by decide) hRl⟩) (fun u => (w_X10_joinTurnsOf Y h_t B_t B_t_classes B_t_current t_toldCount t_classes_n t_classes_leader t_current_n t_current_cells)) [3, 4] [0, 1, 2] [0, 1, 2, 3, 4] rfl rfl rfl rfl (by decide) (fun _ => rfl) rfl 3 6 rfl rfl rfl rfl hl.1 rfl (Nat.le_of_ble_eq_true rfl) dX10_joinTurnsOf_38 (fun r38 u H locs h hP hD hS => ?_)
        try dsimp only at h
        have hP : va_P G vwCl (w_X10_joinTurnsOf Y h_t B_t B_t_classes B_t_current t_toldCount t_classes_n t_classes_leader t_current_n t_current_cells) H := hP
        have hD : va_D A (w_X10_joinTurnsOf Y h_t B_t B_t_classes B_t_current t_toldCount t_classes_n t_classes_leader t_current_n t_current_cells) := hD
        refine mc_iV ⟨hx, hb, hml, hown, hts⟩ hK hE hA hP hD hS (c_X1_join l G Y tF H.size (B_t 6) B_t_classes t_classes_n t_classes_leader r28 r38 h) (cwV 2 hts gX10_joinTurnsOf_X1_join rfl rfl rfl (by decide +kernel) ⟨Nat.le_trans (by decide) hRf, Nat.le_trans (by decide) hRl⟩) (fun u => (w_X10_joinTurnsOf Y h_t B_t B_t_classes B_t_current t_toldCount t_classes_n u t_current_n t_current_cells)) [1, 2] [0, 3, 4] [0, 3, 4, 1, 2] rfl rfl rfl rfl (by decide) (fun _ => rfl) rfl 1 1 rfl rfl rfl rfl hl.1 rfl (Nat.le_of_ble_eq_true rfl) dX10_joinTurnsOf_41 (fun r41 u H locs h hP hD hS => ?_)
        obtain ⟨t_classes_leader_41, rfl⟩ : ∃ z, z = u := ⟨_, rfl⟩
        try dsimp only at h
        have hP : va_P G vwCl (w_X10_joinTurnsOf Y h_t B_t B_t_classes B_t_current t_toldCount t_classes_n t_classes_leader_41 t_current_n t_current_cells) H := hP
        have hD : va_D A (w_X10_joinTurnsOf Y h_t B_t B_t_classes B_t_current t_toldCount t_classes_n t_classes_leader_41 t_current_n t_current_cells) := hD
        refine lv_istore (lv' := [(5, .int r41), (0, .ref h_t), (1, .int x1), (2, .int x2), (3, .int x3), (4, .int x4)]) hx hb dX10_joinTurnsOf_44 hl (by decide) rfl (fun ls hl => ?_)
        refine lv_aload_n hx hb dX10_joinTurnsOf_46 rfl (lv_at hl 1 rfl) ?_
        refine va_get (D := G) (ci := 9) (v := .ref (B_t 6)) (C := RX10) (T := TX10) (N := 15) hx hb hts inX10 hown hK hP 0 rfl rfl 6 (by decide) hf45 (fun _ h9 => h9) rfl dX10_joinTurnsOf_47 ?_
        refine lv_aload_n hx hb dX10_joinTurnsOf_50 rfl (lv_at hl 1 rfl) ?_
        refine va_get (D := G) (ci := 9) (v := .ref (B_t 0)) (C := RX10) (T := TX10) (N := 15) hx hb hts inX10 hown hK hP 0 rfl rfl 0 (by decide) hf14 (fun _ h9 => h9) rfl dX10_joinTurnsOf_51 ?_
        refine lv_iload hx hb dX10_joinTurnsOf_54 (lv_at hl 5 rfl) ?_
        refine lv_iload_n hx hb dX10_joinTurnsOf_56 rfl (lv_at hl 2 rfl) ?_
        refine mc_iV ⟨hx, hb, hml, hown, hts⟩ hK hE hA hP hD hS (c_X7_turned l G Y tF H.size (B_t 0) B_t_current t_current_n t_current_cells x4 x1 h) (cwV 2 hts gX10_joinTurnsOf_X7_turned rfl rfl rfl (by decide +kernel) ⟨Nat.le_trans (by decide) hRf, Nat.le_trans (by decide) hRl⟩) (fun u => (w_X10_joinTurnsOf Y h_t B_t B_t_classes B_t_current t_toldCount t_classes_n t_classes_leader_41 t_current_n t_current_cells)) [3, 4] [0, 1, 2] [0, 1, 2, 3, 4] rfl rfl rfl rfl (by decide) (fun _ => rfl) rfl 3 6 rfl rfl rfl rfl hl.1 rfl (Nat.le_of_ble_eq_true rfl) dX10_joinTurnsOf_57 (fun r57 u H locs h hP hD hS => ?_)
        try dsimp only at h
        have hP : va_P G vwCl (w_X10_joinTurnsOf Y h_t B_t B_t_classes B_t_current t_toldCount t_classes_n t_classes_leader_41 t_current_n t_current_cells) H := hP
        have hD : va_D A (w_X10_joinTurnsOf Y h_t B_t B_t_classes B_t_current t_toldCount t_classes_n t_classes_leader_41 t_current_n t_current_cells) := hD
        refine lv_aload_n hx hb dX10_joinTurnsOf_60 rfl (lv_at hl 1 rfl) ?_
        refine va_get (D := G) (ci := 9) (v := .ref (B_t 0)) (C := RX10) (T := TX10) (N := 15) hx hb hts inX10 hown hK hP 0 rfl rfl 0 (by decide) hf14 (fun _ h9 => h9) rfl dX10_joinTurnsOf_61 ?_
        refine lv_iload hx hb dX10_joinTurnsOf_64 (lv_at hl 5 rfl) ?_
        refine lv_iload_n hx hb dX10_joinTurnsOf_66 rfl (lv_at hl 3 rfl) ?_
        refine mc_iV ⟨hx, hb, hml, hown, hts⟩ hK hE hA hP hD hS (c_X7_turned l G Y tF H.size (B_t 0) B_t_current t_current_n t_current_cells x4 x2 h) (cwV 2 hts gX10_joinTurnsOf_X7_turned rfl rfl rfl (by decide +kernel) ⟨Nat.le_trans (by decide) hRf, Nat.le_trans (by decide) hRl⟩) (fun u => (w_X10_joinTurnsOf Y h_t B_t B_t_classes B_t_current t_toldCount t_classes_n t_classes_leader_41 t_current_n t_current_cells)) [3, 4] [0, 1, 2] [0, 1, 2, 3, 4] rfl rfl rfl rfl (by decide) (fun _ => rfl) rfl 3 6 rfl rfl rfl rfl hl.1 rfl (Nat.le_of_ble_eq_true rfl) dX10_joinTurnsOf_67 (fun r67 u H locs h hP hD hS => ?_)
        try dsimp only at h
        have hP : va_P G vwCl (w_X10_joinTurnsOf Y h_t B_t B_t_classes B_t_current t_toldCount t_classes_n t_classes_leader_41 t_current_n t_current_cells) H := hP
        have hD : va_D A (w_X10_joinTurnsOf Y h_t B_t B_t_classes B_t_current t_toldCount t_classes_n t_classes_leader_41 t_current_n t_current_cells) := hD
        refine mc_iV ⟨hx, hb, hml, hown, hts⟩ hK hE hA hP hD hS (c_X1_join l G Y tF H.size (B_t 6) B_t_classes t_classes_n t_classes_leader_41 r57 r67 h) (cwV 2 hts gX10_joinTurnsOf_X1_join rfl rfl rfl (by decide +kernel) ⟨Nat.le_trans (by decide) hRf, Nat.le_trans (by decide) hRl⟩) (fun u => (w_X10_joinTurnsOf Y h_t B_t B_t_classes B_t_current t_toldCount t_classes_n u t_current_n t_current_cells)) [1, 2] [0, 3, 4] [0, 3, 4, 1, 2] rfl rfl rfl rfl (by decide) (fun _ => rfl) rfl 1 1 rfl rfl rfl rfl hl.1 rfl (Nat.le_of_ble_eq_true rfl) dX10_joinTurnsOf_70 (fun r70 u H locs h hP hD hS => ?_)
        obtain ⟨t_classes_leader_70, rfl⟩ : ∃ z, z = u := ⟨_, rfl⟩
        try dsimp only at h
        have hP : va_P G vwCl (w_X10_joinTurnsOf Y h_t B_t B_t_classes B_t_current t_toldCount t_classes_n t_classes_leader_70 t_current_n t_current_cells) H := hP
        have hD : va_D A (w_X10_joinTurnsOf Y h_t B_t B_t_classes B_t_current t_toldCount t_classes_n t_classes_leader_70 t_current_n t_current_cells) := hD
        refine lv_istore (lv' := [(6, .int r70), (5, .int r41), (0, .ref h_t), (1, .int x1), (2, .int x2), (3, .int x3), (4, .int x4)]) hx hb dX10_joinTurnsOf_73 hl (by decide) rfl (fun ls hl => ?_)
        refine lv_iload_n hx hb dX10_joinTurnsOf_75 rfl (lv_at hl 5 rfl) ?_
        obtain ⟨ht, hf⟩ := h
        refine lv_if_ne (tgt := 89) hx hb dX10_joinTurnsOf_76 (by decide) (fun c9 => ?_) (fun c9 => ?_)
        · have h := ht c9
          exact J89 x4 t_classes_leader_70 H locs ls h hP hD hS (lv_sub hl [2, 3, 4, 6] rfl)
        · have h := hf c9
          refine lv_iload hx hb dX10_joinTurnsOf_79 (lv_at hl 1 rfl) ?_
          obtain ⟨ht, hf⟩ := h
          refine lv_if_ne (tgt := 89) hx hb dX10_joinTurnsOf_81 (by decide) (fun c9 => ?_) (fun c9 => ?_)
          · have h := ht c9
            exact J89 x4 t_classes_leader_70 H locs ls h hP hD hS (lv_sub hl [2, 3, 4, 6] rfl)
          · have h := hf c9
            refine lv_iload hx hb dX10_joinTurnsOf_84 (lv_at hl 0 rfl) ?_
            obtain ⟨ht, hf⟩ := h
            refine lv_if_eq (tgt := 93) hx hb dX10_joinTurnsOf_86 (by decide) (fun c9 => ?_) (fun c9 => ?_)
            · have h := ht c9
              refine lv_iconst (v := 0) hx hb dX10_joinTurnsOf_93 (by decide) ?_
              refine lv_istore_n (lv' := [(3, .int (0 : Int32)), (6, .int r70), (5, .int r41), (0, .ref h_t), (1, .int x1), (2, .int x2), (4, .int x4)]) hx hb dX10_joinTurnsOf_94 rfl hl (by decide) rfl (fun ls hl => ?_)
              refine lv_iinc (v := (x4 + 1)) (lv' := [(4, .int (x4 + 1)), (3, .int (0 : Int32)), (6, .int r70), (5, .int r41), (0, .ref h_t), (1, .int x1), (2, .int x2)]) hx hb dX10_joinTurnsOf_95 hl (k := 6) rfl rfl (by decide) rfl (fun ls hl => ?_)
              refine lv_goto (tgt := 5) hx hb dX10_joinTurnsOf_98 (by decide) ?_
              exact rec5 (0 : Int32) (x4 + 1) t_classes_leader_70 H locs ls h hP hD hS (lv_sub hl [4, 5, 6, 1, 0] rfl)
            · have h := hf c9
              exact J89 x4 t_classes_leader_70 H locs ls h hP hD hS (lv_sub hl [2, 3, 4, 6] rfl)
  exact L5 x1 x2 I5 m5 hB5 _ (0 : Int32) (0 : Int32) t_classes_leader H locs ls hI5 (Nat.lt_succ_self _) hP hD hS (lv_sub hl [2, 3, 4, 1, 0] rfl)

set_option maxHeartbeats 20000000 in
set_option maxRecDepth 100000 in
theorem c_X10_joinTurnsOf (l : Launch) (G : va_G) (Y : Nat → ClassId) (tF sz : Nat) (h_t : Nat) (B_t : Nat → Nat) (B_t_classes : Nat → Nat) (B_t_current : Nat → Nat) (t_toldCount : Int32) (t_classes_n : Int32) (t_classes_leader : Nat → Int32) (t_current_n : Int32) (t_current_cells : Nat → Int32) (x1 : Int32) (x2 : Int32) {K : Int32 → (Nat → Int32) → Prop} (h : pX10_joinTurnsOf t_classes_n t_classes_leader t_current_n t_current_cells x1 x2 K) : Met l yX10_joinTurnsOf wsX10_joinTurnsOf ({ frames := 2, cells := 0, slots := 0, locals := 49 }) (PcM G Y tF sz (w_X10_joinTurnsOf Y h_t B_t B_t_classes B_t_current t_toldCount t_classes_n t_classes_leader t_current_n t_current_cells) [.ref h_t, .int x1, .int x2]) (va_Qi (fun (r : Int32) (u : (Nat → Int32)) => K r u) (fun u t => BM G Y (va_A (w_X10_joinTurnsOf Y h_t B_t B_t_classes B_t_current t_toldCount t_classes_n t_classes_leader t_current_n t_current_cells) sz) (w_X10_joinTurnsOf Y h_t B_t B_t_classes B_t_current t_toldCount t_classes_n u t_current_n t_current_cells) t) (va_A (w_X10_joinTurnsOf Y h_t B_t B_t_classes B_t_current t_toldCount t_classes_n t_classes_leader t_current_n t_current_cells) sz)) 0 0 (va_A (w_X10_joinTurnsOf Y h_t B_t B_t_classes B_t_current t_toldCount t_classes_n t_classes_leader t_current_n t_current_cells) sz) := by
  refine Met.ofW (cc := cX10_joinTurnsOf) (maxL := 7) (ret := (some .boolean)) (by decide +kernel) rfl ?_
  intro p e s m args below meth c s₁ B hml hv
  obtain ⟨rfl, hsz, hP, hK, hD0, hE⟩ := hv
  have hts := atoms_spec (ws := wsX10_joinTurnsOf) B.pre
  have hown : s.vm.findClass RX10 = some m.cls := findClass_of_methodNamed B.named
  have hlocks := B.notSynchronized
  subst hsz
  have hD := hD0.self (sz := s.heap.size)
  exact wk_X10_joinTurnsOf h_t B_t B_t_classes B_t_current t_toldCount t_classes_n t_classes_leader t_current_n t_current_cells x1 x2 B.exec B.bytes hml hown hts hK hE (fun q h => Or.inr h) (Nat.le_refl _) (Nat.le_refl _) (fun r t_classes_leader H locs ls pc hP hD hS hz hk hd => W.zret (v := r) B.exec B.bytes B.returns hz.n (fun t ht hW => ⟨⟨r, t_classes_leader, rfl, hk, by rw [ht]; exact hP, va_K.moved hW.alike hK, hD⟩, hS.F ht⟩) hS.2.2 hd) hP hD h

abbrev w_X10_joinWhatMustBeOne (Y : Nat → ClassId) (h_t : Nat) (B_t : Nat → Nat) (B_t_classes : Nat → Nat) (B_t_current : Nat → Nat) (t_toldCount : Int32) (t_classes_n : Int32) (t_classes_leader : Nat → Int32) (t_current_n : Int32) (t_current_cells : Nat → Int32) : va_W := [(h_t, .inr (9, [.ref (B_t 0), .ref (B_t 1), .ref (B_t 2), .ref (B_t 3), .ref (B_t 4), .ref (B_t 5), .ref (B_t 6), .ref (B_t 7), .ref (B_t 8), .ref (B_t 9), .ref (B_t 10), .ref (B_t 11), .ref (B_t 12), .ref (B_t 13), .int t_toldCount])), ((B_t 6), .inr (1, [.ref (B_t_classes 0), .ref (B_t_classes 1), .int t_classes_n])), ((B_t_classes 0), .inl (Y 0, 8, .inl t_classes_leader)), ((B_t 0), .inr (6, [.ref (B_t_current 0), .int t_current_n])), ((B_t_current 0), .inl (Y 0, 64, .inl t_current_cells))]

set_option maxHeartbeats 20000000 in
set_option maxRecDepth 100000 in
theorem wk_X10_joinWhatMustBeOne {p : Program} {l : Launch} {e : Env} {R : Room} {s : State} {m : MethodId} {args : Array Value} {below : List Frame} {meth : Method} {c : Code} {Q : State → Prop} {G : va_G} {Y : Nat → ClassId} {tF : Nat} {A : Nat → Prop} (h_t : Nat) (B_t : Nat → Nat) (B_t_classes : Nat → Nat) (B_t_current : Nat → Nat) (t_toldCount : Int32) (t_classes_n : Int32) (t_classes_leader : Nat → Int32) (t_current_n : Int32) (t_current_cells : Nat → Int32) {K : (Nat → Int32) → Prop} (hx : p.tables.exec = Jvm.exec) (hb : c.code = cX10_joinWhatMustBeOne) (hml : c.maxLocals = 5) (hown : s.vm.findClass RX10 = some m.cls) (hts : ∀ w ∈ wsX10_joinWhatMustBeOne, w.before args s = true) (hK : va_K G vwCl (tyL Y) s) (hE : Ev A tF s) (hA : ∀ q, s.heap.size ≤ q → A q) (hRf : 3 ≤ R.frames) (hRl : 75 ≤ R.locals) (hret : ∀ (t_classes_leader : Nat → Int32) (H : Heap) (locs : List Loc) (ls : Array Slot) (pc : Nat), va_P G vwCl (w_X10_joinWhatMustBeOne Y h_t B_t B_t_classes B_t_current t_toldCount t_classes_n t_classes_leader t_current_n t_current_cells) H → va_D A (w_X10_joinWhatMustBeOne Y h_t B_t B_t_classes B_t_current t_toldCount t_classes_n t_classes_leader t_current_n t_current_cells) → va_S A s.heap H locs → K t_classes_leader → decode cX10_joinWhatMustBeOne pc = .ok (.return_, 1) → W p l e R s m args below meth c H locs 0 0 Q (F0 m pc ls [])) (hP : va_P G vwCl (w_X10_joinWhatMustBeOne Y h_t B_t B_t_classes B_t_current t_toldCount t_classes_n t_classes_leader t_current_n t_current_cells) s.heap) (hD : va_D A (w_X10_joinWhatMustBeOne Y h_t B_t B_t_classes B_t_current t_toldCount t_classes_n t_classes_leader t_current_n t_current_cells)) (h : pX10_joinWhatMustBeOne t_classes_n t_classes_leader t_current_n t_current_cells K) : W p l e R s m args below meth c s.heap [] 0 0 Q (entryFrame m ([.ref h_t] : List Value).toArray 5) := by
  have inX10 : ∀ w ∈ u_ws RX10 TX10 15, w ∈ wsX10_joinWhatMustBeOne := by decide +kernel
  have inX7 : ∀ w ∈ u_ws RX7 TX7 2, w ∈ wsX10_joinWhatMustBeOne := by decide +kernel
  have hf14 := hts (.fieldLink RX10 14 "RackBench" "current" "LRackBench$Table;") (by decide +kernel)
  have hf45 := hts (.fieldLink RX10 45 "RackBench" "classes" "LRackBench$Classes;") (by decide +kernel)
  have hl := lv_entry ([.ref h_t]) (n := 5) (Nat.le_of_ble_eq_true rfl)
  rw [lg_entry_eq]
  generalize (lg_sl ([.ref h_t]) ++ List.replicate (5 - (lg_sl ([.ref h_t])).length) Slot.unset).toArray = ls at hl ⊢
  have hl : lv_has ls 5 [(0, .ref h_t)] := hl
  generalize hH0 : s.heap = H at hP ⊢
  have hS : va_S A s.heap H [] := by rw [← hH0]; exact va_S.rf
  clear hH0
  generalize ([] : List Loc) = locs at hS ⊢
  refine lv_iconst (v := 1) hx hb dX10_joinWhatMustBeOne_0 (by decide) ?_
  refine lv_istore_n (lv' := [(1, .int (1 : Int32)), (0, .ref h_t)]) hx hb dX10_joinWhatMustBeOne_1 rfl hl (by decide) rfl (fun ls hl => ?_)
  refine lv_iconst (v := 0) hx hb dX10_joinWhatMustBeOne_2 (by decide) ?_
  refine lv_istore_n (lv' := [(2, .int (0 : Int32)), (1, .int (1 : Int32)), (0, .ref h_t)]) hx hb dX10_joinWhatMustBeOne_3 rfl hl (by decide) rfl (fun ls hl => ?_)
  obtain ⟨I4, m4, hI4, hB4⟩ := h
  have L4 : ∀  (I4 : Int32 → Int32 → (Nat → Int32) → Prop) (m4 : Int32 → Int32 → (Nat → Int32) → Nat), (∀ (x1 : Int32) (x2 : Int32) (t_classes_leader : Nat → Int32), I4 x1 x2 t_classes_leader → pX10_joinWhatMustBeOne_4 t_classes_n t_current_n t_current_cells K x1 x2 t_classes_leader (fun x1' x2' t_classes_leader' => I4 x1' x2' t_classes_leader' ∧ m4 x1' x2' t_classes_leader' < m4 x1 x2 t_classes_leader)) → ∀ (n : Nat) (x1 : Int32) (x2 : Int32) (t_classes_leader : Nat → Int32) (H : Heap) (locs : List Loc) (ls : Array Slot), I4 x1 x2 t_classes_leader → m4 x1 x2 t_classes_leader < n → va_P G vwCl (w_X10_joinWhatMustBeOne Y h_t B_t B_t_classes B_t_current t_toldCount t_classes_n t_classes_leader t_current_n t_current_cells) H → va_D A (w_X10_joinWhatMustBeOne Y h_t B_t B_t_classes B_t_current t_toldCount t_classes_n t_classes_leader t_current_n t_current_cells) → va_S A s.heap H locs → lv_has ls 5 [(0, .ref h_t), (1, .int x1), (2, .int x2)] → W p l e R s m args below meth c H locs 0 0 Q (F0 m 4 ls []) := by
    intro  I4 m4 hB4 n
    induction n with
    | zero => intro x1 x2 t_classes_leader H locs ls _ hm; exact absurd hm (Nat.not_lt_zero _)
    | succ n ih =>
      intro x1 x2 t_classes_leader H locs ls hI hm hP hD hS hl
      obtain ⟨R4, h, rec4⟩ : ∃ R4 : Int32 → Int32 → (Nat → Int32) → Prop, pX10_joinWhatMustBeOne_4 t_classes_n t_current_n t_current_cells K x1 x2 t_classes_leader R4 ∧ ∀ (x1 : Int32) (x2 : Int32) (t_classes_leader : Nat → Int32) (H : Heap) (locs : List Loc) (ls : Array Slot), R4 x1 x2 t_classes_leader → va_P G vwCl (w_X10_joinWhatMustBeOne Y h_t B_t B_t_classes B_t_current t_toldCount t_classes_n t_classes_leader t_current_n t_current_cells) H → va_D A (w_X10_joinWhatMustBeOne Y h_t B_t B_t_classes B_t_current t_toldCount t_classes_n t_classes_leader t_current_n t_current_cells) → va_S A s.heap H locs → lv_has ls 5 [(0, .ref h_t), (1, .int x1), (2, .int x2)] → W p l e R s m args below meth c H locs 0 0 Q (F0 m 4 ls []) := ⟨_, hB4 x1 x2 t_classes_leader hI, fun x1 x2 t_classes_leader H locs ls hh hP hD hS hl => ih x1 x2 t_classes_leader H locs ls hh.1 (Nat.lt_of_lt_of_le hh.2 (Nat.le_of_lt_succ hm)) hP hD hS hl⟩
      refine lv_iload_n hx hb dX10_joinWhatMustBeOne_4 rfl (lv_at hl 2 rfl) ?_
      refine lv_aload_n hx hb dX10_joinWhatMustBeOne_5 rfl (lv_at hl 0 rfl) ?_
      refine va_get (D := G) (ci := 9) (v := .ref (B_t 0)) (C := RX10) (T := TX10) (N := 15) hx hb hts inX10 hown hK hP 0 rfl rfl 0 (by decide) hf14 (fun _ h9 => h9) rfl dX10_joinWhatMustBeOne_6 ?_
      refine va_getN (D := G) (ci := 6) (v := .int t_current_n) (C := RX7) (T := TX7) (N := 2) hx hb hts inX7 hown hK hP 3 rfl rfl 1 (by decide) (hE.nest args 0 _ rfl) (fun _ h9 => h9) rfl dX10_joinWhatMustBeOne_9 ?_
      obtain ⟨ht, hf⟩ := h
      refine lv_icmp_ge (tgt := 94) hx hb dX10_joinWhatMustBeOne_12 (by decide) (fun c9 => ?_) (fun c9 => ?_)
      · have h := ht c9
        exact hret t_classes_leader H locs ls _ hP hD hS h dX10_joinWhatMustBeOne_94
      · have h := hf c9
        refine lv_iload_n hx hb dX10_joinWhatMustBeOne_15 rfl (lv_at hl 1 rfl) ?_
        obtain ⟨ht, hf⟩ := h
        refine lv_if_eq (tgt := 94) hx hb dX10_joinWhatMustBeOne_16 (by decide) (fun c9 => ?_) (fun c9 => ?_)
        · have h := ht c9
          exact hret t_classes_leader H locs ls _ hP hD hS h dX10_joinWhatMustBeOne_94
        · have h := hf c9
          refine lv_iconst (v := 0) hx hb dX10_joinWhatMustBeOne_19 (by decide) ?_
          refine lv_istore_n (lv' := [(1, .int (0 : Int32)), (0, .ref h_t), (2, .int x2)]) hx hb dX10_joinWhatMustBeOne_20 rfl hl (by decide) rfl (fun ls hl => ?_)
          refine lv_iconst (v := 0) hx hb dX10_joinWhatMustBeOne_21 (by decide) ?_
          refine lv_istore_n (lv' := [(3, .int (0 : Int32)), (1, .int (0 : Int32)), (0, .ref h_t), (2, .int x2)]) hx hb dX10_joinWhatMustBeOne_22 rfl hl (by decide) rfl (fun ls hl => ?_)
          obtain ⟨I23, m23, hI23, hB23⟩ := h
          have L23 : ∀ (x2 : Int32) (I23 : Int32 → Int32 → (Nat → Int32) → Prop) (m23 : Int32 → Int32 → (Nat → Int32) → Nat), (∀ (x1 : Int32) (x3 : Int32) (t_classes_leader : Nat → Int32), I23 x1 x3 t_classes_leader → pX10_joinWhatMustBeOne_23 t_classes_n t_current_n t_current_cells R4 K x2 x1 x3 t_classes_leader (fun x1' x3' t_classes_leader' => I23 x1' x3' t_classes_leader' ∧ m23 x1' x3' t_classes_leader' < m23 x1 x3 t_classes_leader)) → ∀ (n : Nat) (x1 : Int32) (x3 : Int32) (t_classes_leader : Nat → Int32) (H : Heap) (locs : List Loc) (ls : Array Slot), I23 x1 x3 t_classes_leader → m23 x1 x3 t_classes_leader < n → va_P G vwCl (w_X10_joinWhatMustBeOne Y h_t B_t B_t_classes B_t_current t_toldCount t_classes_n t_classes_leader t_current_n t_current_cells) H → va_D A (w_X10_joinWhatMustBeOne Y h_t B_t B_t_classes B_t_current t_toldCount t_classes_n t_classes_leader t_current_n t_current_cells) → va_S A s.heap H locs → lv_has ls 5 [(0, .ref h_t), (1, .int x1), (2, .int x2), (3, .int x3)] → W p l e R s m args below meth c H locs 0 0 Q (F0 m 23 ls []) := by
            intro x2 I23 m23 hB23 n
            induction n with
            | zero => intro x1 x3 t_classes_leader H locs ls _ hm; exact absurd hm (Nat.not_lt_zero _)
            | succ n ih =>
              intro x1 x3 t_classes_leader H locs ls hI hm hP hD hS hl
              obtain ⟨R23, h, rec23⟩ : ∃ R23 : Int32 → Int32 → (Nat → Int32) → Prop, pX10_joinWhatMustBeOne_23 t_classes_n t_current_n t_current_cells R4 K x2 x1 x3 t_classes_leader R23 ∧ ∀ (x1 : Int32) (x3 : Int32) (t_classes_leader : Nat → Int32) (H : Heap) (locs : List Loc) (ls : Array Slot), R23 x1 x3 t_classes_leader → va_P G vwCl (w_X10_joinWhatMustBeOne Y h_t B_t B_t_classes B_t_current t_toldCount t_classes_n t_classes_leader t_current_n t_current_cells) H → va_D A (w_X10_joinWhatMustBeOne Y h_t B_t B_t_classes B_t_current t_toldCount t_classes_n t_classes_leader t_current_n t_current_cells) → va_S A s.heap H locs → lv_has ls 5 [(0, .ref h_t), (1, .int x1), (2, .int x2), (3, .int x3)] → W p l e R s m args below meth c H locs 0 0 Q (F0 m 23 ls []) := ⟨_, hB23 x1 x3 t_classes_leader hI, fun x1 x3 t_classes_leader H locs ls hh hP hD hS hl => ih x1 x3 t_classes_leader H locs ls hh.1 (Nat.lt_of_lt_of_le hh.2 (Nat.le_of_lt_succ hm)) hP hD hS hl⟩
              refine lv_iload_n hx hb dX10_joinWhatMustBeOne_23 rfl (lv_at hl 3 rfl) ?_
              refine lv_aload_n hx hb dX10_joinWhatMustBeOne_24 rfl (lv_at hl 0 rfl) ?_
              refine va_get (D := G) (ci := 9) (v := .ref (B_t 0)) (C := RX10) (T := TX10) (N := 15) hx hb hts inX10 hown hK hP 0 rfl rfl 0 (by decide) hf14 (fun _ h9 => h9) rfl dX10_joinWhatMustBeOne_25 ?_
              refine va_getN (D := G) (ci := 6) (v := .int t_current_n) (C := RX7) (T := TX7) (N := 2) hx hb hts inX7 hown hK hP 3 rfl rfl 1 (by decide) (hE.nest args 0 _ rfl) (fun _ h9 => h9) rfl dX10_joinWhatMustBeOne_28 ?_
              obtain ⟨ht, hf⟩ := h
              refine lv_icmp_ge (tgt := 88) hx hb dX10_joinWhatMustBeOne_31 (by decide) (fun c9 => ?_) (fun c9 => ?_)
              · have h := ht c9
                refine lv_iinc (v := (x2 + 1)) (lv' := [(2, .int (x2 + 1)), (0, .ref h_t), (1, .int x1), (3, .int x3)]) hx hb dX10_joinWhatMustBeOne_88 hl (k := 2) rfl rfl (by decide) rfl (fun ls hl => ?_)
                refine lv_goto (tgt := 4) hx hb dX10_joinWhatMustBeOne_91 (by decide) ?_
                exact rec4 x1 (x2 + 1) t_classes_leader H locs ls h hP hD hS (lv_sub hl [1, 2, 0] rfl)
              · have h := hf c9
                refine lv_iload_n hx hb dX10_joinWhatMustBeOne_34 rfl (lv_at hl 3 rfl) ?_
                refine lv_iconst (v := 1) hx hb dX10_joinWhatMustBeOne_35 (by decide) ?_
                refine lv_iadd hx hb dX10_joinWhatMustBeOne_36 ?_
                refine lv_istore (lv' := [(4, .int (x3 + (1 : Int32))), (0, .ref h_t), (1, .int x1), (2, .int x2), (3, .int x3)]) hx hb dX10_joinWhatMustBeOne_37 hl (by decide) rfl (fun ls hl => ?_)
                obtain ⟨I39, m39, hI39, hB39⟩ := h
                have L39 : ∀ (x3 : Int32) (I39 : Int32 → Int32 → (Nat → Int32) → Prop) (m39 : Int32 → Int32 → (Nat → Int32) → Nat), (∀ (x1 : Int32) (x4 : Int32) (t_classes_leader : Nat → Int32), I39 x1 x4 t_classes_leader → pX10_joinWhatMustBeOne_39 t_classes_n t_current_n t_current_cells R4 R23 K x2 x3 x1 x4 t_classes_leader (fun x1' x4' t_classes_leader' => I39 x1' x4' t_classes_leader' ∧ m39 x1' x4' t_classes_leader' < m39 x1 x4 t_classes_leader)) → ∀ (n : Nat) (x1 : Int32) (x4 : Int32) (t_classes_leader : Nat → Int32) (H : Heap) (locs : List Loc) (ls : Array Slot), I39 x1 x4 t_classes_leader → m39 x1 x4 t_classes_leader < n → va_P G vwCl (w_X10_joinWhatMustBeOne Y h_t B_t B_t_classes B_t_current t_toldCount t_classes_n t_classes_leader t_current_n t_current_cells) H → va_D A (w_X10_joinWhatMustBeOne Y h_t B_t B_t_classes B_t_current t_toldCount t_classes_n t_classes_leader t_current_n t_current_cells) → va_S A s.heap H locs → lv_has ls 5 [(0, .ref h_t), (1, .int x1), (2, .int x2), (3, .int x3), (4, .int x4)] → W p l e R s m args below meth c H locs 0 0 Q (F0 m 39 ls []) := by
                  intro x3 I39 m39 hB39 n
                  induction n with
                  | zero => intro x1 x4 t_classes_leader H locs ls _ hm; exact absurd hm (Nat.not_lt_zero _)
                  | succ n ih =>
                    intro x1 x4 t_classes_leader H locs ls hI hm hP hD hS hl
                    obtain ⟨R39, h, rec39⟩ : ∃ R39 : Int32 → Int32 → (Nat → Int32) → Prop, pX10_joinWhatMustBeOne_39 t_classes_n t_current_n t_current_cells R4 R23 K x2 x3 x1 x4 t_classes_leader R39 ∧ ∀ (x1 : Int32) (x4 : Int32) (t_classes_leader : Nat → Int32) (H : Heap) (locs : List Loc) (ls : Array Slot), R39 x1 x4 t_classes_leader → va_P G vwCl (w_X10_joinWhatMustBeOne Y h_t B_t B_t_classes B_t_current t_toldCount t_classes_n t_classes_leader t_current_n t_current_cells) H → va_D A (w_X10_joinWhatMustBeOne Y h_t B_t B_t_classes B_t_current t_toldCount t_classes_n t_classes_leader t_current_n t_current_cells) → va_S A s.heap H locs → lv_has ls 5 [(0, .ref h_t), (1, .int x1), (2, .int x2), (3, .int x3), (4, .int x4)] → W p l e R s m args below meth c H locs 0 0 Q (F0 m 39 ls []) := ⟨_, hB39 x1 x4 t_classes_leader hI, fun x1 x4 t_classes_leader H locs ls hh hP hD hS hl => ih x1 x4 t_classes_leader H locs ls hh.1 (Nat.lt_of_lt_of_le hh.2 (Nat.le_of_lt_succ hm)) hP hD hS hl⟩
                    refine lv_iload hx hb dX10_joinWhatMustBeOne_39 (lv_at hl 4 rfl) ?_
                    refine lv_aload_n hx hb dX10_joinWhatMustBeOne_41 rfl (lv_at hl 0 rfl) ?_
                    refine va_get (D := G) (ci := 9) (v := .ref (B_t 0)) (C := RX10) (T := TX10) (N := 15) hx hb hts inX10 hown hK hP 0 rfl rfl 0 (by decide) hf14 (fun _ h9 => h9) rfl dX10_joinWhatMustBeOne_42 ?_
                    refine va_getN (D := G) (ci := 6) (v := .int t_current_n) (C := RX7) (T := TX7) (N := 2) hx hb hts inX7 hown hK hP 3 rfl rfl 1 (by decide) (hE.nest args 0 _ rfl) (fun _ h9 => h9) rfl dX10_joinWhatMustBeOne_45 ?_
                    obtain ⟨ht, hf⟩ := h
                    refine lv_icmp_ge (tgt := 82) hx hb dX10_joinWhatMustBeOne_48 (by decide) (fun c9 => ?_) (fun c9 => ?_)
                    · have h := ht c9
                      refine lv_iinc (v := (x3 + 1)) (lv' := [(3, .int (x3 + 1)), (0, .ref h_t), (1, .int x1), (2, .int x2), (4, .int x4)]) hx hb dX10_joinWhatMustBeOne_82 hl (k := 3) rfl rfl (by decide) rfl (fun ls hl => ?_)
                      refine lv_goto (tgt := 23) hx hb dX10_joinWhatMustBeOne_85 (by decide) ?_
                      exact rec23 x1 (x3 + 1) t_classes_leader H locs ls h hP hD hS (lv_sub hl [1, 2, 3, 0] rfl)
                    · have h := hf c9
                      refine lv_aload_n hx hb dX10_joinWhatMustBeOne_51 rfl (lv_at hl 0 rfl) ?_
                      refine va_get (D := G) (ci := 9) (v := .ref (B_t 6)) (C := RX10) (T := TX10) (N := 15) hx hb hts inX10 hown hK hP 0 rfl rfl 6 (by decide) hf45 (fun _ h9 => h9) rfl dX10_joinWhatMustBeOne_52 ?_
                      refine lv_iload_n hx hb dX10_joinWhatMustBeOne_55 rfl (lv_at hl 3 rfl) ?_
                      refine lv_iload hx hb dX10_joinWhatMustBeOne_56 (lv_at hl 4 rfl) ?_
                      refine mc_iV ⟨hx, hb, hml, hown, hts⟩ hK hE hA hP hD hS (c_X1_areOne l G Y tF H.size (B_t 6) B_t_classes t_classes_n t_classes_leader x3 x4 h) (cwV 2 hts gX10_joinWhatMustBeOne_X1_areOne rfl rfl rfl (by decide +kernel) ⟨Nat.le_trans (by decide) hRf, Nat.le_trans (by decide) hRl⟩) (fun u => (w_X10_joinWhatMustBeOne Y h_t B_t B_t_classes B_t_current t_toldCount t_classes_n t_classes_leader t_current_n t_current_cells)) [1, 2] [0, 3, 4] [0, 3, 4, 1, 2] rfl rfl rfl rfl (by decide) (fun _ => rfl) rfl 1 1 rfl rfl rfl rfl hl.1 rfl (Nat.le_of_ble_eq_true rfl) dX10_joinWhatMustBeOne_58 (fun r58 u H locs h hP hD hS => ?_)
                      try dsimp only at h
                      have hP : va_P G vwCl (w_X10_joinWhatMustBeOne Y h_t B_t B_t_classes B_t_current t_toldCount t_classes_n t_classes_leader t_current_n t_current_cells) H := hP
                      have hD : va_D A (w_X10_joinWhatMustBeOne Y h_t B_t B_t_classes B_t_current t_toldCount t_classes_n t_classes_leader t_current_n t_current_cells) := hD
                      obtain ⟨ht, hf⟩ := h
                      refine lv_if_eq (tgt := 76) hx hb dX10_joinWhatMustBeOne_61 (by decide) (fun c9 => ?_) (fun c9 => ?_)
                      · have h := ht c9
                        refine lv_iinc (v := (x4 + 1)) (lv' := [(4, .int (x4 + 1)), (0, .ref h_t), (1, .int x1), (2, .int x2), (3, .int x3)]) hx hb dX10_joinWhatMustBeOne_76 hl (k := 4) rfl rfl (by decide) rfl (fun ls hl => ?_)
                        refine lv_goto (tgt := 39) hx hb dX10_joinWhatMustBeOne_79 (by decide) ?_
                        exact rec39 x1 (x4 + 1) t_classes_leader H locs ls h hP hD hS (lv_sub hl [1, 2, 3, 4, 0] rfl)
                      · have h := hf c9
                        refine lv_aload_n hx hb dX10_joinWhatMustBeOne_64 rfl (lv_at hl 0 rfl) ?_
                        refine lv_iload_n hx hb dX10_joinWhatMustBeOne_65 rfl (lv_at hl 3 rfl) ?_
                        refine lv_iload hx hb dX10_joinWhatMustBeOne_66 (lv_at hl 4 rfl) ?_
                        refine mc_iV ⟨hx, hb, hml, hown, hts⟩ hK hE hA hP hD hS (c_X10_joinTurnsOf l G Y tF H.size h_t B_t B_t_classes B_t_current t_toldCount t_classes_n t_classes_leader t_current_n t_current_cells x3 x4 h) (cwV 2 hts gX10_joinWhatMustBeOne_X10_joinTurnsOf rfl rfl rfl (by decide +kernel) ⟨Nat.le_trans (by decide) hRf, Nat.le_trans (by decide) hRl⟩) (fun u => (w_X10_joinWhatMustBeOne Y h_t B_t B_t_classes B_t_current t_toldCount t_classes_n u t_current_n t_current_cells)) [0, 1, 2, 3, 4] [] [0, 1, 2, 3, 4] rfl rfl rfl rfl (by decide) (fun _ => rfl) rfl 0 9 rfl rfl rfl rfl hl.1 rfl (Nat.le_of_ble_eq_true rfl) dX10_joinWhatMustBeOne_68 (fun r68 u H locs h hP hD hS => ?_)
                        obtain ⟨t_classes_leader_68, rfl⟩ : ∃ z, z = u := ⟨_, rfl⟩
                        try dsimp only at h
                        have hP : va_P G vwCl (w_X10_joinWhatMustBeOne Y h_t B_t B_t_classes B_t_current t_toldCount t_classes_n t_classes_leader_68 t_current_n t_current_cells) H := hP
                        have hD : va_D A (w_X10_joinWhatMustBeOne Y h_t B_t B_t_classes B_t_current t_toldCount t_classes_n t_classes_leader_68 t_current_n t_current_cells) := hD
                        obtain ⟨ht, hf⟩ := h
                        refine lv_if_eq (tgt := 76) hx hb dX10_joinWhatMustBeOne_71 (by decide) (fun c9 => ?_) (fun c9 => ?_)
                        · have h := ht c9
                          refine lv_iinc (v := (x4 + 1)) (lv' := [(4, .int (x4 + 1)), (0, .ref h_t), (1, .int x1), (2, .int x2), (3, .int x3)]) hx hb dX10_joinWhatMustBeOne_76 hl (k := 4) rfl rfl (by decide) rfl (fun ls hl => ?_)
                          refine lv_goto (tgt := 39) hx hb dX10_joinWhatMustBeOne_79 (by decide) ?_
                          exact rec39 x1 (x4 + 1) t_classes_leader_68 H locs ls h hP hD hS (lv_sub hl [1, 2, 3, 4, 0] rfl)
                        · have h := hf c9
                          refine lv_iconst (v := 1) hx hb dX10_joinWhatMustBeOne_74 (by decide) ?_
                          refine lv_istore_n (lv' := [(1, .int (1 : Int32)), (0, .ref h_t), (2, .int x2), (3, .int x3), (4, .int x4)]) hx hb dX10_joinWhatMustBeOne_75 rfl hl (by decide) rfl (fun ls hl => ?_)
                          refine lv_iinc (v := (x4 + 1)) (lv' := [(4, .int (x4 + 1)), (1, .int (1 : Int32)), (0, .ref h_t), (2, .int x2), (3, .int x3)]) hx hb dX10_joinWhatMustBeOne_76 hl (k := 4) rfl rfl (by decide) rfl (fun ls hl => ?_)
                          refine lv_goto (tgt := 39) hx hb dX10_joinWhatMustBeOne_79 (by decide) ?_
                          exact rec39 (1 : Int32) (x4 + 1) t_classes_leader_68 H locs ls h hP hD hS (lv_sub hl [2, 1, 3, 4, 0] rfl)
                exact L39 x3 I39 m39 hB39 _ x1 (x3 + (1 : Int32)) t_classes_leader H locs ls hI39 (Nat.lt_succ_self _) hP hD hS (lv_sub hl [1, 2, 3, 4, 0] rfl)
          exact L23 x2 I23 m23 hB23 _ (0 : Int32) (0 : Int32) t_classes_leader H locs ls hI23 (Nat.lt_succ_self _) hP hD hS (lv_sub hl [2, 1, 3, 0] rfl)
  exact L4  I4 m4 hB4 _ (1 : Int32) (0 : Int32) t_classes_leader H locs ls hI4 (Nat.lt_succ_self _) hP hD hS (lv_sub hl [2, 1, 0] rfl)

set_option maxHeartbeats 20000000 in
set_option maxRecDepth 100000 in
theorem c_X10_joinWhatMustBeOne (l : Launch) (G : va_G) (Y : Nat → ClassId) (tF sz : Nat) (h_t : Nat) (B_t : Nat → Nat) (B_t_classes : Nat → Nat) (B_t_current : Nat → Nat) (t_toldCount : Int32) (t_classes_n : Int32) (t_classes_leader : Nat → Int32) (t_current_n : Int32) (t_current_cells : Nat → Int32) {K : (Nat → Int32) → Prop} (h : pX10_joinWhatMustBeOne t_classes_n t_classes_leader t_current_n t_current_cells K) : Met l yX10_joinWhatMustBeOne wsX10_joinWhatMustBeOne ({ frames := 3, cells := 0, slots := 0, locals := 75 }) (PcM G Y tF sz (w_X10_joinWhatMustBeOne Y h_t B_t B_t_classes B_t_current t_toldCount t_classes_n t_classes_leader t_current_n t_current_cells) [.ref h_t]) (va_Qv (fun u : (Nat → Int32) => K u) (fun u t => BM G Y (va_A (w_X10_joinWhatMustBeOne Y h_t B_t B_t_classes B_t_current t_toldCount t_classes_n t_classes_leader t_current_n t_current_cells) sz) (w_X10_joinWhatMustBeOne Y h_t B_t B_t_classes B_t_current t_toldCount t_classes_n u t_current_n t_current_cells) t) (va_A (w_X10_joinWhatMustBeOne Y h_t B_t B_t_classes B_t_current t_toldCount t_classes_n t_classes_leader t_current_n t_current_cells) sz)) 0 0 (va_A (w_X10_joinWhatMustBeOne Y h_t B_t B_t_classes B_t_current t_toldCount t_classes_n t_classes_leader t_current_n t_current_cells) sz) := by
  refine Met.ofW (cc := cX10_joinWhatMustBeOne) (maxL := 5) (ret := none) (by decide +kernel) rfl ?_
  intro p e s m args below meth c s₁ B hml hv
  obtain ⟨rfl, hsz, hP, hK, hD0, hE⟩ := hv
  have hts := atoms_spec (ws := wsX10_joinWhatMustBeOne) B.pre
  have hown : s.vm.findClass RX10 = some m.cls := findClass_of_methodNamed B.named
  have hlocks := B.notSynchronized
  subst hsz
  have hD := hD0.self (sz := s.heap.size)
  exact wk_X10_joinWhatMustBeOne h_t B_t B_t_classes B_t_current t_toldCount t_classes_n t_classes_leader t_current_n t_current_cells B.exec B.bytes hml hown hts hK hE (fun q h => Or.inr h) (Nat.le_refl _) (Nat.le_refl _) (fun t_classes_leader H locs ls pc hP hD hS hk hd => W.vret B.exec B.bytes B.returns (fun t ht hW => ⟨⟨t_classes_leader, rfl, hk, by rw [ht]; exact hP, va_K.moved hW.alike hK, hD⟩, hS.F ht⟩) hS.2.2 hd) hP hD h

abbrev w_X10_part (Y : Nat → ClassId) (h_t : Nat) (B_t : Nat → Nat) (B_t_classes : Nat → Nat) (B_t_current : Nat → Nat) (B_t_draft : Nat → Nat) (B_t_twisting : Nat → Nat) (t_toldCount : Int32) (t_classes_n : Int32) (t_classes_leader : Nat → Int32) (t_classes_numbers : Nat → Int32) (t_current_n : Int32) (t_current_cells : Nat → Int32) (t_draft_n : Int32) (t_draft_cells : Nat → Int32) (t_twisting_modulus : Int32) (t_twisting_values : Nat → Int32) : va_W := [(h_t, .inr (9, [.ref (B_t 0), .ref (B_t 1), .ref (B_t 2), .ref (B_t 3), .ref (B_t 4), .ref (B_t 5), .ref (B_t 6), .ref (B_t 7), .ref (B_t 8), .ref (B_t 9), .ref (B_t 10), .ref (B_t 11), .ref (B_t 12), .ref (B_t 13), .int t_toldCount])), ((B_t 6), .inr (1, [.ref (B_t_classes 0), .ref (B_t_classes 1), .int t_classes_n])), ((B_t_classes 0), .inl (Y 0, 8, .inl t_classes_leader)), ((B_t_classes 1), .inl (Y 0, 8, .inl t_classes_numbers)), ((B_t 0), .inr (6, [.ref (B_t_current 0), .int t_current_n])), ((B_t_current 0), .inl (Y 0, 64, .inl t_current_cells)), ((B_t 1), .inr (6, [.ref (B_t_draft 0), .int t_draft_n])), ((B_t_draft 0), .inl (Y 0, 64, .inl t_draft_cells)), ((B_t 4), .inr (8, [.ref (B_t_twisting 0), .int t_twisting_modulus])), ((B_t_twisting 0), .inl (Y 0, 64, .inl t_twisting_values))]

set_option maxHeartbeats 20000000 in
set_option maxRecDepth 100000 in
theorem wk_X10_part {p : Program} {l : Launch} {e : Env} {R : Room} {s : State} {m : MethodId} {args : Array Value} {below : List Frame} {meth : Method} {c : Code} {Q : State → Prop} {G : va_G} {Y : Nat → ClassId} {tF : Nat} {A : Nat → Prop} (h_t : Nat) (B_t : Nat → Nat) (B_t_classes : Nat → Nat) (B_t_current : Nat → Nat) (B_t_draft : Nat → Nat) (B_t_twisting : Nat → Nat) (t_toldCount : Int32) (t_classes_n : Int32) (t_classes_leader : Nat → Int32) (t_classes_numbers : Nat → Int32) (t_current_n : Int32) (t_current_cells : Nat → Int32) (t_draft_n : Int32) (t_draft_cells : Nat → Int32) (t_twisting_modulus : Int32) (t_twisting_values : Nat → Int32) (x1 : Int32) (x2 : Int32) {K : Int32 → Int32 → (Nat → Int32) → (Nat → Int32) → Int32 → (Nat → Int32) → Int32 → (Nat → Int32) → (Nat → Int32) → Prop} (hx : p.tables.exec = Jvm.exec) (hb : c.code = cX10_part) (hml : c.maxLocals = 5) (hown : s.vm.findClass RX10 = some m.cls) (hts : ∀ w ∈ wsX10_part, w.before args s = true) (hK : va_K G vwCl (tyL Y) s) (hE : Ev A tF s) (hA : ∀ q, s.heap.size ≤ q → A q) (hRf : 4 ≤ R.frames) (hRl : 105 ≤ R.locals) (hret : ∀ (r : Int32) (t_classes_n : Int32) (t_classes_leader : Nat → Int32) (t_classes_numbers : Nat → Int32) (t_current_n : Int32) (t_current_cells : Nat → Int32) (t_draft_n : Int32) (t_draft_cells : Nat → Int32) (t_twisting_values : Nat → Int32) (H : Heap) (locs : List Loc) (ls : Array Slot) (pc : Nat), va_P G vwCl (w_X10_part Y h_t B_t B_t_classes B_t_current B_t_draft B_t_twisting t_toldCount t_classes_n t_classes_leader t_classes_numbers t_current_n t_current_cells t_draft_n t_draft_cells t_twisting_modulus t_twisting_values) H → va_D A (w_X10_part Y h_t B_t B_t_classes B_t_current B_t_draft B_t_twisting t_toldCount t_classes_n t_classes_leader t_classes_numbers t_current_n t_current_cells t_draft_n t_draft_cells t_twisting_modulus t_twisting_values) → va_S A s.heap H locs → K r t_classes_n t_classes_leader t_classes_numbers t_current_n t_current_cells t_draft_n t_draft_cells t_twisting_values → decode cX10_part pc = .ok (.ireturn, 1) → W p l e R s m args below meth c H locs 0 0 Q (F0 m pc ls [.int r])) (hP : va_P G vwCl (w_X10_part Y h_t B_t B_t_classes B_t_current B_t_draft B_t_twisting t_toldCount t_classes_n t_classes_leader t_classes_numbers t_current_n t_current_cells t_draft_n t_draft_cells t_twisting_modulus t_twisting_values) s.heap) (hD : va_D A (w_X10_part Y h_t B_t B_t_classes B_t_current B_t_draft B_t_twisting t_toldCount t_classes_n t_classes_leader t_classes_numbers t_current_n t_current_cells t_draft_n t_draft_cells t_twisting_modulus t_twisting_values)) (h : pX10_part t_classes_n t_classes_leader t_classes_numbers t_current_n t_current_cells t_draft_n t_draft_cells t_twisting_values x1 x2 K) : W p l e R s m args below meth c s.heap [] 0 0 Q (entryFrame m ([.ref h_t, .int x1, .int x2] : List Value).toArray 5) := by
  have inX10 : ∀ w ∈ u_ws RX10 TX10 15, w ∈ wsX10_part := by decide +kernel
  have inX7 : ∀ w ∈ u_ws RX7 TX7 2, w ∈ wsX10_part := by decide +kernel
  have hf14 := hts (.fieldLink RX10 14 "RackBench" "current" "LRackBench$Table;") (by decide +kernel)
  have hf18 := hts (.fieldLink RX10 18 "RackBench" "draft" "LRackBench$Table;") (by decide +kernel)
  have hf45 := hts (.fieldLink RX10 45 "RackBench" "classes" "LRackBench$Classes;") (by decide +kernel)
  have hl := lv_entry ([.ref h_t, .int x1, .int x2]) (n := 5) (Nat.le_of_ble_eq_true rfl)
  rw [lg_entry_eq]
  generalize (lg_sl ([.ref h_t, .int x1, .int x2]) ++ List.replicate (5 - (lg_sl ([.ref h_t, .int x1, .int x2])).length) Slot.unset).toArray = ls at hl ⊢
  have hl : lv_has ls 5 [(0, .ref h_t), (1, .int x1), (2, .int x2)] := hl
  generalize hH0 : s.heap = H at hP ⊢
  have hS : va_S A s.heap H [] := by rw [← hH0]; exact va_S.rf
  clear hH0
  generalize ([] : List Loc) = locs at hS ⊢
  refine lv_aload_n hx hb dX10_part_0 rfl (lv_at hl 0 rfl) ?_
  refine va_get (D := G) (ci := 9) (v := .ref (B_t 0)) (C := RX10) (T := TX10) (N := 15) hx hb hts inX10 hown hK hP 0 rfl rfl 0 (by decide) hf14 (fun _ h9 => h9) rfl dX10_part_1 ?_
  refine lv_iload_n hx hb dX10_part_4 rfl (lv_at hl 1 rfl) ?_
  refine mc_iV ⟨hx, hb, hml, hown, hts⟩ hK hE hA hP hD hS (c_X7_has l G Y tF H.size (B_t 0) B_t_current t_current_n x1 h) (cwV 1 hts gX10_part_X7_has rfl rfl rfl (by decide +kernel) ⟨Nat.le_trans (by decide) hRf, Nat.le_trans (by decide) hRl⟩) (fun u => (w_X10_part Y h_t B_t B_t_classes B_t_current B_t_draft B_t_twisting t_toldCount t_classes_n t_classes_leader t_classes_numbers t_current_n t_current_cells t_draft_n t_draft_cells t_twisting_modulus t_twisting_values)) [4] [0, 1, 2, 3, 5, 6, 7, 8, 9] [0, 1, 2, 3, 9, 4, 5, 6, 7, 8] rfl rfl rfl rfl (by decide) (fun _ => rfl) rfl 4 6 rfl rfl rfl rfl hl.1 rfl (Nat.le_of_ble_eq_true rfl) dX10_part_5 (fun r5 u H locs h hP hD hS => ?_)
  try dsimp only at h
  have hP : va_P G vwCl (w_X10_part Y h_t B_t B_t_classes B_t_current B_t_draft B_t_twisting t_toldCount t_classes_n t_classes_leader t_classes_numbers t_current_n t_current_cells t_draft_n t_draft_cells t_twisting_modulus t_twisting_values) H := hP
  have hD : va_D A (w_X10_part Y h_t B_t B_t_classes B_t_current B_t_draft B_t_twisting t_toldCount t_classes_n t_classes_leader t_classes_numbers t_current_n t_current_cells t_draft_n t_draft_cells t_twisting_modulus t_twisting_values) := hD
  obtain ⟨ht, hf⟩ := h
  refine lv_if_eq (tgt := 32) hx hb dX10_part_8 (by decide) (fun c9 => ?_) (fun c9 => ?_)
  · have h := ht c9
    refine lv_iconst (v := -1) hx hb dX10_part_32 (by decide) ?_
    exact hret (-1 : Int32) t_classes_n t_classes_leader t_classes_numbers t_current_n t_current_cells t_draft_n t_draft_cells t_twisting_values H locs ls _ hP hD hS h dX10_part_33
  · have h := hf c9
    refine lv_aload_n hx hb dX10_part_11 rfl (lv_at hl 0 rfl) ?_
    refine va_get (D := G) (ci := 9) (v := .ref (B_t 0)) (C := RX10) (T := TX10) (N := 15) hx hb hts inX10 hown hK hP 0 rfl rfl 0 (by decide) hf14 (fun _ h9 => h9) rfl dX10_part_12 ?_
    refine lv_iload_n hx hb dX10_part_15 rfl (lv_at hl 2 rfl) ?_
    refine mc_iV ⟨hx, hb, hml, hown, hts⟩ hK hE hA hP hD hS (c_X7_has l G Y tF H.size (B_t 0) B_t_current t_current_n x2 h) (cwV 1 hts gX10_part_X7_has rfl rfl rfl (by decide +kernel) ⟨Nat.le_trans (by decide) hRf, Nat.le_trans (by decide) hRl⟩) (fun u => (w_X10_part Y h_t B_t B_t_classes B_t_current B_t_draft B_t_twisting t_toldCount t_classes_n t_classes_leader t_classes_numbers t_current_n t_current_cells t_draft_n t_draft_cells t_twisting_modulus t_twisting_values)) [4] [0, 1, 2, 3, 5, 6, 7, 8, 9] [0, 1, 2, 3, 9, 4, 5, 6, 7, 8] rfl rfl rfl rfl (by decide) (fun _ => rfl) rfl 4 6 rfl rfl rfl rfl hl.1 rfl (Nat.le_of_ble_eq_true rfl) dX10_part_16 (fun r16 u H locs h hP hD hS => ?_)
    try dsimp only at h
    have hP : va_P G vwCl (w_X10_part Y h_t B_t B_t_classes B_t_current B_t_draft B_t_twisting t_toldCount t_classes_n t_classes_leader t_classes_numbers t_current_n t_current_cells t_draft_n t_draft_cells t_twisting_modulus t_twisting_values) H := hP
    have hD : va_D A (w_X10_part Y h_t B_t B_t_classes B_t_current B_t_draft B_t_twisting t_toldCount t_classes_n t_classes_leader t_classes_numbers t_current_n t_current_cells t_draft_n t_draft_cells t_twisting_modulus t_twisting_values) := hD
    obtain ⟨ht, hf⟩ := h
    refine lv_if_eq (tgt := 32) hx hb dX10_part_19 (by decide) (fun c9 => ?_) (fun c9 => ?_)
    · have h := ht c9
      refine lv_iconst (v := -1) hx hb dX10_part_32 (by decide) ?_
      exact hret (-1 : Int32) t_classes_n t_classes_leader t_classes_numbers t_current_n t_current_cells t_draft_n t_draft_cells t_twisting_values H locs ls _ hP hD hS h dX10_part_33
    · have h := hf c9
      refine lv_aload_n hx hb dX10_part_22 rfl (lv_at hl 0 rfl) ?_
      refine va_get (D := G) (ci := 9) (v := .ref (B_t 0)) (C := RX10) (T := TX10) (N := 15) hx hb hts inX10 hown hK hP 0 rfl rfl 0 (by decide) hf14 (fun _ h9 => h9) rfl dX10_part_23 ?_
      refine mc_iV ⟨hx, hb, hml, hown, hts⟩ hK hE hA hP hD hS (c_X7_isRack l G Y tF H.size (B_t 0) B_t_current t_current_n t_current_cells h) (cwV 0 hts gX10_part_X7_isRack rfl rfl rfl (by decide +kernel) ⟨Nat.le_trans (by decide) hRf, Nat.le_trans (by decide) hRl⟩) (fun u => (w_X10_part Y h_t B_t B_t_classes B_t_current B_t_draft B_t_twisting t_toldCount t_classes_n t_classes_leader t_classes_numbers t_current_n t_current_cells t_draft_n t_draft_cells t_twisting_modulus t_twisting_values)) [4, 5] [0, 1, 2, 3, 6, 7, 8, 9] [0, 1, 2, 3, 8, 9, 4, 5, 6, 7] rfl rfl rfl rfl (by decide) (fun _ => rfl) rfl 4 6 rfl rfl rfl rfl hl.1 rfl (Nat.le_of_ble_eq_true rfl) dX10_part_26 (fun r26 u H locs h hP hD hS => ?_)
      try dsimp only at h
      have hP : va_P G vwCl (w_X10_part Y h_t B_t B_t_classes B_t_current B_t_draft B_t_twisting t_toldCount t_classes_n t_classes_leader t_classes_numbers t_current_n t_current_cells t_draft_n t_draft_cells t_twisting_modulus t_twisting_values) H := hP
      have hD : va_D A (w_X10_part Y h_t B_t B_t_classes B_t_current B_t_draft B_t_twisting t_toldCount t_classes_n t_classes_leader t_classes_numbers t_current_n t_current_cells t_draft_n t_draft_cells t_twisting_modulus t_twisting_values) := hD
      obtain ⟨ht, hf⟩ := h
      refine lv_if_ne (tgt := 34) hx hb dX10_part_29 (by decide) (fun c9 => ?_) (fun c9 => ?_)
      · have h := ht c9
        refine lv_aload_n hx hb dX10_part_34 rfl (lv_at hl 0 rfl) ?_
        refine va_get (D := G) (ci := 9) (v := .ref (B_t 6)) (C := RX10) (T := TX10) (N := 15) hx hb hts inX10 hown hK hP 0 rfl rfl 6 (by decide) hf45 (fun _ h9 => h9) rfl dX10_part_35 ?_
        refine lv_aload_n hx hb dX10_part_38 rfl (lv_at hl 0 rfl) ?_
        refine va_get (D := G) (ci := 9) (v := .ref (B_t 0)) (C := RX10) (T := TX10) (N := 15) hx hb hts inX10 hown hK hP 0 rfl rfl 0 (by decide) hf14 (fun _ h9 => h9) rfl dX10_part_39 ?_
        refine va_getN (D := G) (ci := 6) (v := .int t_current_n) (C := RX7) (T := TX7) (N := 2) hx hb hts inX7 hown hK hP 4 rfl rfl 1 (by decide) (hE.nest args 0 _ rfl) (fun _ h9 => h9) rfl dX10_part_42 ?_
        refine mc_vV ⟨hx, hb, hml, hown, hts⟩ hK hE hA hP hD hS (c_X1_split l G Y tF H.size (B_t 6) B_t_classes t_classes_n t_classes_leader t_current_n h) (cwV 1 hts gX10_part_X1_split rfl rfl rfl (by decide +kernel) ⟨Nat.le_trans (by decide) hRf, Nat.le_trans (by decide) hRl⟩) (fun u => (w_X10_part Y h_t B_t B_t_classes B_t_current B_t_draft B_t_twisting t_toldCount u.1 u.2 t_classes_numbers t_current_n t_current_cells t_draft_n t_draft_cells t_twisting_modulus t_twisting_values)) [1, 2] [0, 3, 4, 5, 6, 7, 8, 9] [0, 8, 9, 1, 2, 3, 4, 5, 6, 7] rfl rfl rfl rfl (by decide) (fun _ => rfl) rfl 1 1 rfl rfl rfl rfl hl.1 rfl (Nat.le_of_ble_eq_true rfl) dX10_part_45 (fun u H locs h hP hD hS => ?_)
        obtain ⟨t_classes_n_45, t_classes_leader_45⟩ := u
        try dsimp only at h
        have hP : va_P G vwCl (w_X10_part Y h_t B_t B_t_classes B_t_current B_t_draft B_t_twisting t_toldCount t_classes_n_45 t_classes_leader_45 t_classes_numbers t_current_n t_current_cells t_draft_n t_draft_cells t_twisting_modulus t_twisting_values) H := hP
        have hD : va_D A (w_X10_part Y h_t B_t B_t_classes B_t_current B_t_draft B_t_twisting t_toldCount t_classes_n_45 t_classes_leader_45 t_classes_numbers t_current_n t_current_cells t_draft_n t_draft_cells t_twisting_modulus t_twisting_values) := hD
        refine lv_aload_n hx hb dX10_part_48 rfl (lv_at hl 0 rfl) ?_
        refine va_get (D := G) (ci := 9) (v := .ref (B_t 6)) (C := RX10) (T := TX10) (N := 15) hx hb hts inX10 hown hK hP 0 rfl rfl 6 (by decide) hf45 (fun _ h9 => h9) rfl dX10_part_49 ?_
        refine lv_iload_n hx hb dX10_part_52 rfl (lv_at hl 1 rfl) ?_
        refine lv_iload_n hx hb dX10_part_53 rfl (lv_at hl 2 rfl) ?_
        refine mc_iV ⟨hx, hb, hml, hown, hts⟩ hK hE hA hP hD hS (c_X1_join l G Y tF H.size (B_t 6) B_t_classes t_classes_n_45 t_classes_leader_45 x1 x2 h) (cwV 2 hts gX10_part_X1_join rfl rfl rfl (by decide +kernel) ⟨Nat.le_trans (by decide) hRf, Nat.le_trans (by decide) hRl⟩) (fun u => (w_X10_part Y h_t B_t B_t_classes B_t_current B_t_draft B_t_twisting t_toldCount t_classes_n_45 u t_classes_numbers t_current_n t_current_cells t_draft_n t_draft_cells t_twisting_modulus t_twisting_values)) [1, 2] [0, 3, 4, 5, 6, 7, 8, 9] [0, 8, 9, 1, 2, 3, 4, 5, 6, 7] rfl rfl rfl rfl (by decide) (fun _ => rfl) rfl 1 1 rfl rfl rfl rfl hl.1 rfl (Nat.le_of_ble_eq_true rfl) dX10_part_54 (fun r54 u H locs h hP hD hS => ?_)
        obtain ⟨t_classes_leader_54, rfl⟩ : ∃ z, z = u := ⟨_, rfl⟩
        try dsimp only at h
        have hP : va_P G vwCl (w_X10_part Y h_t B_t B_t_classes B_t_current B_t_draft B_t_twisting t_toldCount t_classes_n_45 t_classes_leader_54 t_classes_numbers t_current_n t_current_cells t_draft_n t_draft_cells t_twisting_modulus t_twisting_values) H := hP
        have hD : va_D A (w_X10_part Y h_t B_t B_t_classes B_t_current B_t_draft B_t_twisting t_toldCount t_classes_n_45 t_classes_leader_54 t_classes_numbers t_current_n t_current_cells t_draft_n t_draft_cells t_twisting_modulus t_twisting_values) := hD
        refine lv_pop hx hb dX10_part_57 rfl ?_
        refine lv_aload_n hx hb dX10_part_58 rfl (lv_at hl 0 rfl) ?_
        refine mc_vV ⟨hx, hb, hml, hown, hts⟩ hK hE hA hP hD hS (c_X10_joinWhatMustBeOne l G Y tF H.size h_t B_t B_t_classes B_t_current t_toldCount t_classes_n_45 t_classes_leader_54 t_current_n t_current_cells h) (cwV 0 hts gX10_part_X10_joinWhatMustBeOne rfl rfl rfl (by decide +kernel) ⟨Nat.le_trans (by decide) hRf, Nat.le_trans (by decide) hRl⟩) (fun u => (w_X10_part Y h_t B_t B_t_classes B_t_current B_t_draft B_t_twisting t_toldCount t_classes_n_45 u t_classes_numbers t_current_n t_current_cells t_draft_n t_draft_cells t_twisting_modulus t_twisting_values)) [0, 1, 2, 4, 5] [3, 6, 7, 8, 9] [5, 6, 7, 0, 8, 9, 1, 2, 3, 4] rfl rfl rfl rfl (by decide) (fun _ => rfl) rfl 0 9 rfl rfl rfl rfl hl.1 rfl (Nat.le_of_ble_eq_true rfl) dX10_part_59 (fun u H locs h hP hD hS => ?_)
        obtain ⟨t_classes_leader_59, rfl⟩ : ∃ z, z = u := ⟨_, rfl⟩
        try dsimp only at h
        have hP : va_P G vwCl (w_X10_part Y h_t B_t B_t_classes B_t_current B_t_draft B_t_twisting t_toldCount t_classes_n_45 t_classes_leader_59 t_classes_numbers t_current_n t_current_cells t_draft_n t_draft_cells t_twisting_modulus t_twisting_values) H := hP
        have hD : va_D A (w_X10_part Y h_t B_t B_t_classes B_t_current B_t_draft B_t_twisting t_toldCount t_classes_n_45 t_classes_leader_59 t_classes_numbers t_current_n t_current_cells t_draft_n t_draft_cells t_twisting_modulus t_twisting_values) := hD
        refine lv_aload_n hx hb dX10_part_62 rfl (lv_at hl 0 rfl) ?_
        refine va_get (D := G) (ci := 9) (v := .ref (B_t 1)) (C := RX10) (T := TX10) (N := 15) hx hb hts inX10 hown hK hP 0 rfl rfl 1 (by decide) hf18 (fun _ h9 => h9) rfl dX10_part_63 ?_
        refine lv_aload_n hx hb dX10_part_66 rfl (lv_at hl 0 rfl) ?_
        refine va_get (D := G) (ci := 9) (v := .ref (B_t 6)) (C := RX10) (T := TX10) (N := 15) hx hb hts inX10 hown hK hP 0 rfl rfl 6 (by decide) hf45 (fun _ h9 => h9) rfl dX10_part_67 ?_
        refine mc_iV ⟨hx, hb, hml, hown, hts⟩ hK hE hA hP hD hS (c_X1_number l G Y tF H.size (B_t 6) B_t_classes t_classes_n_45 t_classes_leader_59 t_classes_numbers h) (cwV 0 hts gX10_part_X1_number rfl rfl rfl (by decide +kernel) ⟨Nat.le_trans (by decide) hRf, Nat.le_trans (by decide) hRl⟩) (fun u => (w_X10_part Y h_t B_t B_t_classes B_t_current B_t_draft B_t_twisting t_toldCount t_classes_n_45 t_classes_leader_59 u t_current_n t_current_cells t_draft_n t_draft_cells t_twisting_modulus t_twisting_values)) [1, 2, 3] [0, 4, 5, 6, 7, 8, 9] [0, 7, 8, 9, 1, 2, 3, 4, 5, 6] rfl rfl rfl rfl (by decide) (fun _ => rfl) rfl 1 1 rfl rfl rfl rfl hl.1 rfl (Nat.le_of_ble_eq_true rfl) dX10_part_70 (fun r70 u H locs h hP hD hS => ?_)
        obtain ⟨t_classes_numbers_70, rfl⟩ : ∃ z, z = u := ⟨_, rfl⟩
        try dsimp only at h
        have hP : va_P G vwCl (w_X10_part Y h_t B_t B_t_classes B_t_current B_t_draft B_t_twisting t_toldCount t_classes_n_45 t_classes_leader_59 t_classes_numbers_70 t_current_n t_current_cells t_draft_n t_draft_cells t_twisting_modulus t_twisting_values) H := hP
        have hD : va_D A (w_X10_part Y h_t B_t B_t_classes B_t_current B_t_draft B_t_twisting t_toldCount t_classes_n_45 t_classes_leader_59 t_classes_numbers_70 t_current_n t_current_cells t_draft_n t_draft_cells t_twisting_modulus t_twisting_values) := hD
        refine va_putN (D := G) (ci := 6) (v := .int r70) (ty := .int) (C := RX7) (T := TX7) (N := 2) hx hb hts inX7 tyX7 tyX7_ok nmX7 hown hK hP hD hS 6 rfl rfl 1 (by decide) (hE.nest args 0 _ rfl) (fun _ h9 => h9) rfl (by decide +kernel) rfl rfl (Nat.le_of_ble_eq_true rfl) dX10_part_73 (fun H locs hP hD hS => ?_)
        have hP : va_P G vwCl (w_X10_part Y h_t B_t B_t_classes B_t_current B_t_draft B_t_twisting t_toldCount t_classes_n_45 t_classes_leader_59 t_classes_numbers_70 t_current_n t_current_cells r70 t_draft_cells t_twisting_modulus t_twisting_values) H := hP
        have hD : va_D A (w_X10_part Y h_t B_t B_t_classes B_t_current B_t_draft B_t_twisting t_toldCount t_classes_n_45 t_classes_leader_59 t_classes_numbers_70 t_current_n t_current_cells r70 t_draft_cells t_twisting_modulus t_twisting_values) := hD
        refine lv_iconst (v := 0) hx hb dX10_part_76 (by decide) ?_
        refine lv_istore_n (lv' := [(3, .int (0 : Int32)), (0, .ref h_t), (1, .int x1), (2, .int x2)]) hx hb dX10_part_77 rfl hl (by decide) rfl (fun ls hl => ?_)
        obtain ⟨I78, m78, hI78, hB78⟩ := h
        have L78 : ∀ (t_classes_n : Int32) (t_classes_leader : Nat → Int32) (t_classes_numbers : Nat → Int32) (t_current_n : Int32) (t_current_cells : Nat → Int32) (t_draft_n : Int32) (t_twisting_values : Nat → Int32) (I78 : Int32 → (Nat → Int32) → Prop) (m78 : Int32 → (Nat → Int32) → Nat), (∀ (x3 : Int32) (t_draft_cells : Nat → Int32), I78 x3 t_draft_cells → pX10_part_78 K t_classes_n t_classes_leader t_classes_numbers t_current_n t_current_cells t_draft_n t_twisting_values x3 t_draft_cells (fun x3' t_draft_cells' => I78 x3' t_draft_cells' ∧ m78 x3' t_draft_cells' < m78 x3 t_draft_cells)) → ∀ (n : Nat) (x3 : Int32) (t_draft_cells : Nat → Int32) (H : Heap) (locs : List Loc) (ls : Array Slot), I78 x3 t_draft_cells → m78 x3 t_draft_cells < n → va_P G vwCl (w_X10_part Y h_t B_t B_t_classes B_t_current B_t_draft B_t_twisting t_toldCount t_classes_n t_classes_leader t_classes_numbers t_current_n t_current_cells t_draft_n t_draft_cells t_twisting_modulus t_twisting_values) H → va_D A (w_X10_part Y h_t B_t B_t_classes B_t_current B_t_draft B_t_twisting t_toldCount t_classes_n t_classes_leader t_classes_numbers t_current_n t_current_cells t_draft_n t_draft_cells t_twisting_modulus t_twisting_values) → va_S A s.heap H locs → lv_has ls 5 [(0, .ref h_t), (3, .int x3)] → W p l e R s m args below meth c H locs 0 0 Q (F0 m 78 ls []) := by
          intro t_classes_n t_classes_leader t_classes_numbers t_current_n t_current_cells t_draft_n t_twisting_values I78 m78 hB78 n
          induction n with
          | zero => intro x3 t_draft_cells H locs ls _ hm; exact absurd hm (Nat.not_lt_zero _)
          | succ n ih =>
            intro x3 t_draft_cells H locs ls hI hm hP hD hS hl
            obtain ⟨R78, h, rec78⟩ : ∃ R78 : Int32 → (Nat → Int32) → Prop, pX10_part_78 K t_classes_n t_classes_leader t_classes_numbers t_current_n t_current_cells t_draft_n t_twisting_values x3 t_draft_cells R78 ∧ ∀ (x3 : Int32) (t_draft_cells : Nat → Int32) (H : Heap) (locs : List Loc) (ls : Array Slot), R78 x3 t_draft_cells → va_P G vwCl (w_X10_part Y h_t B_t B_t_classes B_t_current B_t_draft B_t_twisting t_toldCount t_classes_n t_classes_leader t_classes_numbers t_current_n t_current_cells t_draft_n t_draft_cells t_twisting_modulus t_twisting_values) H → va_D A (w_X10_part Y h_t B_t B_t_classes B_t_current B_t_draft B_t_twisting t_toldCount t_classes_n t_classes_leader t_classes_numbers t_current_n t_current_cells t_draft_n t_draft_cells t_twisting_modulus t_twisting_values) → va_S A s.heap H locs → lv_has ls 5 [(0, .ref h_t), (3, .int x3)] → W p l e R s m args below meth c H locs 0 0 Q (F0 m 78 ls []) := ⟨_, hB78 x3 t_draft_cells hI, fun x3 t_draft_cells H locs ls hh hP hD hS hl => ih x3 t_draft_cells H locs ls hh.1 (Nat.lt_of_lt_of_le hh.2 (Nat.le_of_lt_succ hm)) hP hD hS hl⟩
            refine lv_iload_n hx hb dX10_part_78 rfl (lv_at hl 1 rfl) ?_
            refine lv_aload_n hx hb dX10_part_79 rfl (lv_at hl 0 rfl) ?_
            refine va_get (D := G) (ci := 9) (v := .ref (B_t 0)) (C := RX10) (T := TX10) (N := 15) hx hb hts inX10 hown hK hP 0 rfl rfl 0 (by decide) hf14 (fun _ h9 => h9) rfl dX10_part_80 ?_
            refine va_getN (D := G) (ci := 6) (v := .int t_current_n) (C := RX7) (T := TX7) (N := 2) hx hb hts inX7 hown hK hP 4 rfl rfl 1 (by decide) (hE.nest args 0 _ rfl) (fun _ h9 => h9) rfl dX10_part_83 ?_
            obtain ⟨ht, hf⟩ := h
            refine lv_icmp_ge (tgt := 157) hx hb dX10_part_86 (by decide) (fun c9 => ?_) (fun c9 => ?_)
            · have h := ht c9
              refine lv_aload_n hx hb dX10_part_157 rfl (lv_at hl 0 rfl) ?_
              refine mc_iV ⟨hx, hb, hml, hown, hts⟩ hK hE hA hP hD hS (c_X10_adoptDraft l G Y tF H.size h_t B_t B_t_current B_t_draft B_t_twisting t_toldCount t_current_n t_current_cells t_draft_n t_draft_cells t_twisting_modulus t_twisting_values h) (cwV 0 hts gX10_part_X10_adoptDraft rfl rfl rfl (by decide +kernel) ⟨Nat.le_trans (by decide) hRf, Nat.le_trans (by decide) hRl⟩) (fun u => (w_X10_part Y h_t B_t B_t_classes B_t_current B_t_draft B_t_twisting t_toldCount t_classes_n t_classes_leader t_classes_numbers u.1 u.2.1 t_draft_n t_draft_cells t_twisting_modulus u.2.2)) [0, 4, 5, 6, 7, 8, 9] [1, 2, 3] [3, 0, 1, 2, 4, 5, 6, 7, 8, 9] rfl rfl rfl rfl (by decide) (fun _ => rfl) rfl 0 9 rfl rfl rfl rfl hl.1 rfl (Nat.le_of_ble_eq_true rfl) dX10_part_158 (fun r158 u H locs h hP hD hS => ?_)
              obtain ⟨t_current_n_158, t_current_cells_158, t_twisting_values_158⟩ := u
              try dsimp only at h
              have hP : va_P G vwCl (w_X10_part Y h_t B_t B_t_classes B_t_current B_t_draft B_t_twisting t_toldCount t_classes_n t_classes_leader t_classes_numbers t_current_n_158 t_current_cells_158 t_draft_n t_draft_cells t_twisting_modulus t_twisting_values_158) H := hP
              have hD : va_D A (w_X10_part Y h_t B_t B_t_classes B_t_current B_t_draft B_t_twisting t_toldCount t_classes_n t_classes_leader t_classes_numbers t_current_n_158 t_current_cells_158 t_draft_n t_draft_cells t_twisting_modulus t_twisting_values_158) := hD
              exact hret r158 t_classes_n t_classes_leader t_classes_numbers t_current_n_158 t_current_cells_158 t_draft_n t_draft_cells t_twisting_values_158 H locs ls _ hP hD hS h dX10_part_161
            · have h := hf c9
              refine lv_iconst (v := 0) hx hb dX10_part_89 (by decide) ?_
              refine lv_istore (lv' := [(4, .int (0 : Int32)), (0, .ref h_t), (3, .int x3)]) hx hb dX10_part_90 hl (by decide) rfl (fun ls hl => ?_)
              obtain ⟨I92, m92, hI92, hB92⟩ := h
              have L92 : ∀ (x3 : Int32) (I92 : Int32 → (Nat → Int32) → Prop) (m92 : Int32 → (Nat → Int32) → Nat), (∀ (x4 : Int32) (t_draft_cells : Nat → Int32), I92 x4 t_draft_cells → pX10_part_92 R78 K t_classes_n t_classes_leader t_classes_numbers t_current_n t_current_cells t_draft_n t_twisting_values x3 x4 t_draft_cells (fun x4' t_draft_cells' => I92 x4' t_draft_cells' ∧ m92 x4' t_draft_cells' < m92 x4 t_draft_cells)) → ∀ (n : Nat) (x4 : Int32) (t_draft_cells : Nat → Int32) (H : Heap) (locs : List Loc) (ls : Array Slot), I92 x4 t_draft_cells → m92 x4 t_draft_cells < n → va_P G vwCl (w_X10_part Y h_t B_t B_t_classes B_t_current B_t_draft B_t_twisting t_toldCount t_classes_n t_classes_leader t_classes_numbers t_current_n t_current_cells t_draft_n t_draft_cells t_twisting_modulus t_twisting_values) H → va_D A (w_X10_part Y h_t B_t B_t_classes B_t_current B_t_draft B_t_twisting t_toldCount t_classes_n t_classes_leader t_classes_numbers t_current_n t_current_cells t_draft_n t_draft_cells t_twisting_modulus t_twisting_values) → va_S A s.heap H locs → lv_has ls 5 [(0, .ref h_t), (3, .int x3), (4, .int x4)] → W p l e R s m args below meth c H locs 0 0 Q (F0 m 92 ls []) := by
                intro x3 I92 m92 hB92 n
                induction n with
                | zero => intro x4 t_draft_cells H locs ls _ hm; exact absurd hm (Nat.not_lt_zero _)
                | succ n ih =>
                  intro x4 t_draft_cells H locs ls hI hm hP hD hS hl
                  obtain ⟨R92, h, rec92⟩ : ∃ R92 : Int32 → (Nat → Int32) → Prop, pX10_part_92 R78 K t_classes_n t_classes_leader t_classes_numbers t_current_n t_current_cells t_draft_n t_twisting_values x3 x4 t_draft_cells R92 ∧ ∀ (x4 : Int32) (t_draft_cells : Nat → Int32) (H : Heap) (locs : List Loc) (ls : Array Slot), R92 x4 t_draft_cells → va_P G vwCl (w_X10_part Y h_t B_t B_t_classes B_t_current B_t_draft B_t_twisting t_toldCount t_classes_n t_classes_leader t_classes_numbers t_current_n t_current_cells t_draft_n t_draft_cells t_twisting_modulus t_twisting_values) H → va_D A (w_X10_part Y h_t B_t B_t_classes B_t_current B_t_draft B_t_twisting t_toldCount t_classes_n t_classes_leader t_classes_numbers t_current_n t_current_cells t_draft_n t_draft_cells t_twisting_modulus t_twisting_values) → va_S A s.heap H locs → lv_has ls 5 [(0, .ref h_t), (3, .int x3), (4, .int x4)] → W p l e R s m args below meth c H locs 0 0 Q (F0 m 92 ls []) := ⟨_, hB92 x4 t_draft_cells hI, fun x4 t_draft_cells H locs ls hh hP hD hS hl => ih x4 t_draft_cells H locs ls hh.1 (Nat.lt_of_lt_of_le hh.2 (Nat.le_of_lt_succ hm)) hP hD hS hl⟩
                  refine lv_iload hx hb dX10_part_92 (lv_at hl 2 rfl) ?_
                  refine lv_aload_n hx hb dX10_part_94 rfl (lv_at hl 0 rfl) ?_
                  refine va_get (D := G) (ci := 9) (v := .ref (B_t 0)) (C := RX10) (T := TX10) (N := 15) hx hb hts inX10 hown hK hP 0 rfl rfl 0 (by decide) hf14 (fun _ h9 => h9) rfl dX10_part_95 ?_
                  refine va_getN (D := G) (ci := 6) (v := .int t_current_n) (C := RX7) (T := TX7) (N := 2) hx hb hts inX7 hown hK hP 4 rfl rfl 1 (by decide) (hE.nest args 0 _ rfl) (fun _ h9 => h9) rfl dX10_part_98 ?_
                  obtain ⟨ht, hf⟩ := h
                  refine lv_icmp_ge (tgt := 151) hx hb dX10_part_101 (by decide) (fun c9 => ?_) (fun c9 => ?_)
                  · have h := ht c9
                    refine lv_iinc (v := (x3 + 1)) (lv' := [(3, .int (x3 + 1)), (0, .ref h_t), (4, .int x4)]) hx hb dX10_part_151 hl (k := 1) rfl rfl (by decide) rfl (fun ls hl => ?_)
                    refine lv_goto (tgt := 78) hx hb dX10_part_154 (by decide) ?_
                    exact rec78 (x3 + 1) t_draft_cells H locs ls h hP hD hS (lv_sub hl [1, 0] rfl)
                  · have h := hf c9
                    refine lv_aload_n hx hb dX10_part_104 rfl (lv_at hl 0 rfl) ?_
                    refine va_get (D := G) (ci := 9) (v := .ref (B_t 1)) (C := RX10) (T := TX10) (N := 15) hx hb hts inX10 hown hK hP 0 rfl rfl 1 (by decide) hf18 (fun _ h9 => h9) rfl dX10_part_105 ?_
                    refine lv_aload_n hx hb dX10_part_108 rfl (lv_at hl 0 rfl) ?_
                    refine va_get (D := G) (ci := 9) (v := .ref (B_t 6)) (C := RX10) (T := TX10) (N := 15) hx hb hts inX10 hown hK hP 0 rfl rfl 6 (by decide) hf45 (fun _ h9 => h9) rfl dX10_part_109 ?_
                    refine lv_iload_n hx hb dX10_part_112 rfl (lv_at hl 1 rfl) ?_
                    refine mc_iV ⟨hx, hb, hml, hown, hts⟩ hK hE hA hP hD hS (c_X1_numberOf l G Y tF H.size (B_t 6) B_t_classes t_classes_n t_classes_numbers x3 h) (cwV 1 hts gX10_part_X1_numberOf rfl rfl rfl (by decide +kernel) ⟨Nat.le_trans (by decide) hRf, Nat.le_trans (by decide) hRl⟩) (fun u => (w_X10_part Y h_t B_t B_t_classes B_t_current B_t_draft B_t_twisting t_toldCount t_classes_n t_classes_leader t_classes_numbers t_current_n t_current_cells t_draft_n t_draft_cells t_twisting_modulus t_twisting_values)) [1, 3] [0, 2, 4, 5, 6, 7, 8, 9] [0, 8, 1, 9, 2, 3, 4, 5, 6, 7] rfl rfl rfl rfl (by decide) (fun _ => rfl) rfl 1 1 rfl rfl rfl rfl hl.1 rfl (Nat.le_of_ble_eq_true rfl) dX10_part_113 (fun r113 u H locs h hP hD hS => ?_)
                    try dsimp only at h
                    have hP : va_P G vwCl (w_X10_part Y h_t B_t B_t_classes B_t_current B_t_draft B_t_twisting t_toldCount t_classes_n t_classes_leader t_classes_numbers t_current_n t_current_cells t_draft_n t_draft_cells t_twisting_modulus t_twisting_values) H := hP
                    have hD : va_D A (w_X10_part Y h_t B_t B_t_classes B_t_current B_t_draft B_t_twisting t_toldCount t_classes_n t_classes_leader t_classes_numbers t_current_n t_current_cells t_draft_n t_draft_cells t_twisting_modulus t_twisting_values) := hD
                    refine lv_aload_n hx hb dX10_part_116 rfl (lv_at hl 0 rfl) ?_
                    refine va_get (D := G) (ci := 9) (v := .ref (B_t 6)) (C := RX10) (T := TX10) (N := 15) hx hb hts inX10 hown hK hP 0 rfl rfl 6 (by decide) hf45 (fun _ h9 => h9) rfl dX10_part_117 ?_
                    refine lv_iload hx hb dX10_part_120 (lv_at hl 2 rfl) ?_
                    refine mc_iV ⟨hx, hb, hml, hown, hts⟩ hK hE hA hP hD hS (c_X1_numberOf l G Y tF H.size (B_t 6) B_t_classes t_classes_n t_classes_numbers x4 h) (cwV 1 hts gX10_part_X1_numberOf rfl rfl rfl (by decide +kernel) ⟨Nat.le_trans (by decide) hRf, Nat.le_trans (by decide) hRl⟩) (fun u => (w_X10_part Y h_t B_t B_t_classes B_t_current B_t_draft B_t_twisting t_toldCount t_classes_n t_classes_leader t_classes_numbers t_current_n t_current_cells t_draft_n t_draft_cells t_twisting_modulus t_twisting_values)) [1, 3] [0, 2, 4, 5, 6, 7, 8, 9] [0, 8, 1, 9, 2, 3, 4, 5, 6, 7] rfl rfl rfl rfl (by decide) (fun _ => rfl) rfl 1 1 rfl rfl rfl rfl hl.1 rfl (Nat.le_of_ble_eq_true rfl) dX10_part_122 (fun r122 u H locs h hP hD hS => ?_)
                    try dsimp only at h
                    have hP : va_P G vwCl (w_X10_part Y h_t B_t B_t_classes B_t_current B_t_draft B_t_twisting t_toldCount t_classes_n t_classes_leader t_classes_numbers t_current_n t_current_cells t_draft_n t_draft_cells t_twisting_modulus t_twisting_values) H := hP
                    have hD : va_D A (w_X10_part Y h_t B_t B_t_classes B_t_current B_t_draft B_t_twisting t_toldCount t_classes_n t_classes_leader t_classes_numbers t_current_n t_current_cells t_draft_n t_draft_cells t_twisting_modulus t_twisting_values) := hD
                    refine lv_aload_n hx hb dX10_part_125 rfl (lv_at hl 0 rfl) ?_
                    refine va_get (D := G) (ci := 9) (v := .ref (B_t 6)) (C := RX10) (T := TX10) (N := 15) hx hb hts inX10 hown hK hP 0 rfl rfl 6 (by decide) hf45 (fun _ h9 => h9) rfl dX10_part_126 ?_
                    refine lv_aload_n hx hb dX10_part_129 rfl (lv_at hl 0 rfl) ?_
                    refine va_get (D := G) (ci := 9) (v := .ref (B_t 0)) (C := RX10) (T := TX10) (N := 15) hx hb hts inX10 hown hK hP 0 rfl rfl 0 (by decide) hf14 (fun _ h9 => h9) rfl dX10_part_130 ?_
                    refine lv_iload_n hx hb dX10_part_133 rfl (lv_at hl 1 rfl) ?_
                    refine lv_iload hx hb dX10_part_134 (lv_at hl 2 rfl) ?_
                    refine mc_iV ⟨hx, hb, hml, hown, hts⟩ hK hE hA hP hD hS (c_X7_turned l G Y tF H.size (B_t 0) B_t_current t_current_n t_current_cells x3 x4 h) (cwV 2 hts gX10_part_X7_turned rfl rfl rfl (by decide +kernel) ⟨Nat.le_trans (by decide) hRf, Nat.le_trans (by decide) hRl⟩) (fun u => (w_X10_part Y h_t B_t B_t_classes B_t_current B_t_draft B_t_twisting t_toldCount t_classes_n t_classes_leader t_classes_numbers t_current_n t_current_cells t_draft_n t_draft_cells t_twisting_modulus t_twisting_values)) [4, 5] [0, 1, 2, 3, 6, 7, 8, 9] [0, 1, 2, 3, 8, 9, 4, 5, 6, 7] rfl rfl rfl rfl (by decide) (fun _ => rfl) rfl 4 6 rfl rfl rfl rfl hl.1 rfl (Nat.le_of_ble_eq_true rfl) dX10_part_136 (fun r136 u H locs h hP hD hS => ?_)
                    try dsimp only at h
                    have hP : va_P G vwCl (w_X10_part Y h_t B_t B_t_classes B_t_current B_t_draft B_t_twisting t_toldCount t_classes_n t_classes_leader t_classes_numbers t_current_n t_current_cells t_draft_n t_draft_cells t_twisting_modulus t_twisting_values) H := hP
                    have hD : va_D A (w_X10_part Y h_t B_t B_t_classes B_t_current B_t_draft B_t_twisting t_toldCount t_classes_n t_classes_leader t_classes_numbers t_current_n t_current_cells t_draft_n t_draft_cells t_twisting_modulus t_twisting_values) := hD
                    refine mc_iV ⟨hx, hb, hml, hown, hts⟩ hK hE hA hP hD hS (c_X1_numberOf l G Y tF H.size (B_t 6) B_t_classes t_classes_n t_classes_numbers r136 h) (cwV 1 hts gX10_part_X1_numberOf rfl rfl rfl (by decide +kernel) ⟨Nat.le_trans (by decide) hRf, Nat.le_trans (by decide) hRl⟩) (fun u => (w_X10_part Y h_t B_t B_t_classes B_t_current B_t_draft B_t_twisting t_toldCount t_classes_n t_classes_leader t_classes_numbers t_current_n t_current_cells t_draft_n t_draft_cells t_twisting_modulus t_twisting_values)) [1, 3] [0, 2, 4, 5, 6, 7, 8, 9] [0, 8, 1, 9, 2, 3, 4, 5, 6, 7] rfl rfl rfl rfl (by decide) (fun _ => rfl) rfl 1 1 rfl rfl rfl rfl hl.1 rfl (Nat.le_of_ble_eq_true rfl) dX10_part_139 (fun r139 u H locs h hP hD hS => ?_)
                    try dsimp only at h
                    have hP : va_P G vwCl (w_X10_part Y h_t B_t B_t_classes B_t_current B_t_draft B_t_twisting t_toldCount t_classes_n t_classes_leader t_classes_numbers t_current_n t_current_cells t_draft_n t_draft_cells t_twisting_modulus t_twisting_values) H := hP
                    have hD : va_D A (w_X10_part Y h_t B_t B_t_classes B_t_current B_t_draft B_t_twisting t_toldCount t_classes_n t_classes_leader t_classes_numbers t_current_n t_current_cells t_draft_n t_draft_cells t_twisting_modulus t_twisting_values) := hD
                    refine mc_vV ⟨hx, hb, hml, hown, hts⟩ hK hE hA hP hD hS (c_X7_put l G Y tF H.size (B_t 1) B_t_draft t_draft_n t_draft_cells r113 r122 r139 h) (cwV 3 hts gX10_part_X7_put rfl rfl rfl (by decide +kernel) ⟨Nat.le_trans (by decide) hRf, Nat.le_trans (by decide) hRl⟩) (fun u => (w_X10_part Y h_t B_t B_t_classes B_t_current B_t_draft B_t_twisting t_toldCount t_classes_n t_classes_leader t_classes_numbers t_current_n t_current_cells t_draft_n u t_twisting_modulus t_twisting_values)) [6, 7] [0, 1, 2, 3, 4, 5, 8, 9] [0, 1, 2, 3, 4, 5, 8, 9, 6, 7] rfl rfl rfl rfl (by decide) (fun _ => rfl) rfl 6 6 rfl rfl rfl rfl hl.1 rfl (Nat.le_of_ble_eq_true rfl) dX10_part_142 (fun u H locs h hP hD hS => ?_)
                    obtain ⟨t_draft_cells_142, rfl⟩ : ∃ z, z = u := ⟨_, rfl⟩
                    try dsimp only at h
                    have hP : va_P G vwCl (w_X10_part Y h_t B_t B_t_classes B_t_current B_t_draft B_t_twisting t_toldCount t_classes_n t_classes_leader t_classes_numbers t_current_n t_current_cells t_draft_n t_draft_cells_142 t_twisting_modulus t_twisting_values) H := hP
                    have hD : va_D A (w_X10_part Y h_t B_t B_t_classes B_t_current B_t_draft B_t_twisting t_toldCount t_classes_n t_classes_leader t_classes_numbers t_current_n t_current_cells t_draft_n t_draft_cells_142 t_twisting_modulus t_twisting_values) := hD
                    refine lv_iinc (v := (x4 + 1)) (lv' := [(4, .int (x4 + 1)), (0, .ref h_t), (3, .int x3)]) hx hb dX10_part_145 hl (k := 2) rfl rfl (by decide) rfl (fun ls hl => ?_)
                    refine lv_goto (tgt := 92) hx hb dX10_part_148 (by decide) ?_
                    exact rec92 (x4 + 1) t_draft_cells_142 H locs ls h hP hD hS (lv_sub hl [1, 2, 0] rfl)
              exact L92 x3 I92 m92 hB92 _ (0 : Int32) t_draft_cells H locs ls hI92 (Nat.lt_succ_self _) hP hD hS (lv_sub hl [1, 2, 0] rfl)
        exact L78 t_classes_n_45 t_classes_leader_59 t_classes_numbers_70 t_current_n t_current_cells r70 t_twisting_values I78 m78 hB78 _ (0 : Int32) t_draft_cells H locs ls hI78 (Nat.lt_succ_self _) hP hD hS (lv_sub hl [1, 0] rfl)
      · have h := hf c9
        refine lv_iconst (v := -1) hx hb dX10_part_32 (by decide) ?_
        exact hret (-1 : Int32) t_classes_n t_classes_leader t_classes_numbers t_current_n t_current_cells t_draft_n t_draft_cells t_twisting_values H locs ls _ hP hD hS h dX10_part_33

set_option maxHeartbeats 20000000 in
set_option maxRecDepth 100000 in
theorem c_X10_part (l : Launch) (G : va_G) (Y : Nat → ClassId) (tF sz : Nat) (h_t : Nat) (B_t : Nat → Nat) (B_t_classes : Nat → Nat) (B_t_current : Nat → Nat) (B_t_draft : Nat → Nat) (B_t_twisting : Nat → Nat) (t_toldCount : Int32) (t_classes_n : Int32) (t_classes_leader : Nat → Int32) (t_classes_numbers : Nat → Int32) (t_current_n : Int32) (t_current_cells : Nat → Int32) (t_draft_n : Int32) (t_draft_cells : Nat → Int32) (t_twisting_modulus : Int32) (t_twisting_values : Nat → Int32) (x1 : Int32) (x2 : Int32) {K : Int32 → Int32 → (Nat → Int32) → (Nat → Int32) → Int32 → (Nat → Int32) → Int32 → (Nat → Int32) → (Nat → Int32) → Prop} (h : pX10_part t_classes_n t_classes_leader t_classes_numbers t_current_n t_current_cells t_draft_n t_draft_cells t_twisting_values x1 x2 K) : Met l yX10_part wsX10_part ({ frames := 4, cells := 0, slots := 0, locals := 105 }) (PcM G Y tF sz (w_X10_part Y h_t B_t B_t_classes B_t_current B_t_draft B_t_twisting t_toldCount t_classes_n t_classes_leader t_classes_numbers t_current_n t_current_cells t_draft_n t_draft_cells t_twisting_modulus t_twisting_values) [.ref h_t, .int x1, .int x2]) (va_Qi (fun (r : Int32) (u : Int32 × (Nat → Int32) × (Nat → Int32) × Int32 × (Nat → Int32) × Int32 × (Nat → Int32) × (Nat → Int32)) => K r u.1 u.2.1 u.2.2.1 u.2.2.2.1 u.2.2.2.2.1 u.2.2.2.2.2.1 u.2.2.2.2.2.2.1 u.2.2.2.2.2.2.2) (fun u t => BM G Y (va_A (w_X10_part Y h_t B_t B_t_classes B_t_current B_t_draft B_t_twisting t_toldCount t_classes_n t_classes_leader t_classes_numbers t_current_n t_current_cells t_draft_n t_draft_cells t_twisting_modulus t_twisting_values) sz) (w_X10_part Y h_t B_t B_t_classes B_t_current B_t_draft B_t_twisting t_toldCount u.1 u.2.1 u.2.2.1 u.2.2.2.1 u.2.2.2.2.1 u.2.2.2.2.2.1 u.2.2.2.2.2.2.1 t_twisting_modulus u.2.2.2.2.2.2.2) t) (va_A (w_X10_part Y h_t B_t B_t_classes B_t_current B_t_draft B_t_twisting t_toldCount t_classes_n t_classes_leader t_classes_numbers t_current_n t_current_cells t_draft_n t_draft_cells t_twisting_modulus t_twisting_values) sz)) 0 0 (va_A (w_X10_part Y h_t B_t B_t_classes B_t_current B_t_draft B_t_twisting t_toldCount t_classes_n t_classes_leader t_classes_numbers t_current_n t_current_cells t_draft_n t_draft_cells t_twisting_modulus t_twisting_values) sz) := by
  refine Met.ofW (cc := cX10_part) (maxL := 5) (ret := (some .int)) (by decide +kernel) rfl ?_
  intro p e s m args below meth c s₁ B hml hv
  obtain ⟨rfl, hsz, hP, hK, hD0, hE⟩ := hv
  have hts := atoms_spec (ws := wsX10_part) B.pre
  have hown : s.vm.findClass RX10 = some m.cls := findClass_of_methodNamed B.named
  have hlocks := B.notSynchronized
  subst hsz
  have hD := hD0.self (sz := s.heap.size)
  exact wk_X10_part h_t B_t B_t_classes B_t_current B_t_draft B_t_twisting t_toldCount t_classes_n t_classes_leader t_classes_numbers t_current_n t_current_cells t_draft_n t_draft_cells t_twisting_modulus t_twisting_values x1 x2 B.exec B.bytes hml hown hts hK hE (fun q h => Or.inr h) (Nat.le_refl _) (Nat.le_refl _) (fun r t_classes_n t_classes_leader t_classes_numbers t_current_n t_current_cells t_draft_n t_draft_cells t_twisting_values H locs ls pc hP hD hS hk hd => W.iret (v := r) B.exec B.bytes B.returns (fun t ht hW => ⟨⟨r, (t_classes_n, t_classes_leader, t_classes_numbers, t_current_n, t_current_cells, t_draft_n, t_draft_cells, t_twisting_values), rfl, hk, by rw [ht]; exact hP, va_K.moved hW.alike hK, hD⟩, hS.F ht⟩) hS.2.2 hd) hP hD h

abbrev w_X10_closedSet (Y : Nat → ClassId) (h_t : Nat) (B_t : Nat → Nat) (B_t_current : Nat → Nat) (t_toldCount : Int32) (t_current_n : Int32) (t_current_cells : Nat → Int32) : va_W := [(h_t, .inr (9, [.ref (B_t 0), .ref (B_t 1), .ref (B_t 2), .ref (B_t 3), .ref (B_t 4), .ref (B_t 5), .ref (B_t 6), .ref (B_t 7), .ref (B_t 8), .ref (B_t 9), .ref (B_t 10), .ref (B_t 11), .ref (B_t 12), .ref (B_t 13), .int t_toldCount])), ((B_t 0), .inr (6, [.ref (B_t_current 0), .int t_current_n])), ((B_t_current 0), .inl (Y 0, 64, .inl t_current_cells))]

set_option maxHeartbeats 20000000 in
set_option maxRecDepth 100000 in
theorem wk_X10_closedSet {p : Program} {l : Launch} {e : Env} {R : Room} {s : State} {m : MethodId} {args : Array Value} {below : List Frame} {meth : Method} {c : Code} {Q : State → Prop} {G : va_G} {Y : Nat → ClassId} {tF : Nat} {A : Nat → Prop} (h_t : Nat) (B_t : Nat → Nat) (B_t_current : Nat → Nat) (t_toldCount : Int32) (t_current_n : Int32) (t_current_cells : Nat → Int32) (x1 : Int32) {K : Int32 → Prop} (hx : p.tables.exec = Jvm.exec) (hb : c.code = cX10_closedSet) (hml : c.maxLocals = 7) (hown : s.vm.findClass RX10 = some m.cls) (hts : ∀ w ∈ wsX10_closedSet, w.before args s = true) (hK : va_K G vwCl (tyL Y) s) (hE : Ev A tF s) (hA : ∀ q, s.heap.size ≤ q → A q) (hRf : 1 ≤ R.frames) (hRl : 22 ≤ R.locals) (hret : ∀ (r : Int32)  (H : Heap) (locs : List Loc) (ls : Array Slot) (pc : Nat), va_P G vwCl (w_X10_closedSet Y h_t B_t B_t_current t_toldCount t_current_n t_current_cells) H → va_D A (w_X10_closedSet Y h_t B_t B_t_current t_toldCount t_current_n t_current_cells) → va_S A s.heap H locs → K r → decode cX10_closedSet pc = .ok (.ireturn, 1) → W p l e R s m args below meth c H locs 0 0 Q (F0 m pc ls [.int r])) (hP : va_P G vwCl (w_X10_closedSet Y h_t B_t B_t_current t_toldCount t_current_n t_current_cells) s.heap) (hD : va_D A (w_X10_closedSet Y h_t B_t B_t_current t_toldCount t_current_n t_current_cells)) (h : pX10_closedSet t_current_n t_current_cells x1 K) : W p l e R s m args below meth c s.heap [] 0 0 Q (entryFrame m ([.ref h_t, .int x1] : List Value).toArray 7) := by
  have inX10 : ∀ w ∈ u_ws RX10 TX10 15, w ∈ wsX10_closedSet := by decide +kernel
  have inX7 : ∀ w ∈ u_ws RX7 TX7 2, w ∈ wsX10_closedSet := by decide +kernel
  have hf14 := hts (.fieldLink RX10 14 "RackBench" "current" "LRackBench$Table;") (by decide +kernel)
  have hl := lv_entry ([.ref h_t, .int x1]) (n := 7) (Nat.le_of_ble_eq_true rfl)
  rw [lg_entry_eq]
  generalize (lg_sl ([.ref h_t, .int x1]) ++ List.replicate (7 - (lg_sl ([.ref h_t, .int x1])).length) Slot.unset).toArray = ls at hl ⊢
  have hl : lv_has ls 7 [(0, .ref h_t), (1, .int x1)] := hl
  generalize hH0 : s.heap = H at hP ⊢
  have hS : va_S A s.heap H [] := by rw [← hH0]; exact va_S.rf
  clear hH0
  generalize ([] : List Loc) = locs at hS ⊢
  refine lv_iload_n hx hb dX10_closedSet_0 rfl (lv_at hl 1 rfl) ?_
  refine lv_istore_n (lv' := [(2, .int x1), (0, .ref h_t), (1, .int x1)]) hx hb dX10_closedSet_1 rfl hl (by decide) rfl (fun ls hl => ?_)
  refine lv_iconst (v := 0) hx hb dX10_closedSet_2 (by decide) ?_
  refine lv_istore_n (lv' := [(3, .int (0 : Int32)), (2, .int x1), (0, .ref h_t), (1, .int x1)]) hx hb dX10_closedSet_3 rfl hl (by decide) rfl (fun ls hl => ?_)
  refine lv_iconst (v := 0) hx hb dX10_closedSet_4 (by decide) ?_
  refine lv_istore (lv' := [(4, .int (0 : Int32)), (3, .int (0 : Int32)), (2, .int x1), (0, .ref h_t), (1, .int x1)]) hx hb dX10_closedSet_5 hl (by decide) rfl (fun ls hl => ?_)
  obtain ⟨I7, m7, hI7, hB7⟩ := h
  have L7 : ∀  (I7 : Int32 → Int32 → Int32 → Prop) (m7 : Int32 → Int32 → Int32 → Nat), (∀ (x2 : Int32) (x3 : Int32) (x4 : Int32), I7 x2 x3 x4 → pX10_closedSet_7 t_current_n t_current_cells K x2 x3 x4 (fun x2' x3' x4' => I7 x2' x3' x4' ∧ m7 x2' x3' x4' < m7 x2 x3 x4)) → ∀ (n : Nat) (x2 : Int32) (x3 : Int32) (x4 : Int32) (H : Heap) (locs : List Loc) (ls : Array Slot), I7 x2 x3 x4 → m7 x2 x3 x4 < n → va_P G vwCl (w_X10_closedSet Y h_t B_t B_t_current t_toldCount t_current_n t_current_cells) H → va_D A (w_X10_closedSet Y h_t B_t B_t_current t_toldCount t_current_n t_current_cells) → va_S A s.heap H locs → lv_has ls 7 [(0, .ref h_t), (2, .int x2), (3, .int x3), (4, .int x4)] → W p l e R s m args below meth c H locs 0 0 Q (F0 m 7 ls []) := by
    intro  I7 m7 hB7 n
    induction n with
    | zero => intro x2 x3 x4 H locs ls _ hm; exact absurd hm (Nat.not_lt_zero _)
    | succ n ih =>
      intro x2 x3 x4 H locs ls hI hm hP hD hS hl
      obtain ⟨R7, h, rec7⟩ : ∃ R7 : Int32 → Int32 → Int32 → Prop, pX10_closedSet_7 t_current_n t_current_cells K x2 x3 x4 R7 ∧ ∀ (x2 : Int32) (x3 : Int32) (x4 : Int32) (H : Heap) (locs : List Loc) (ls : Array Slot), R7 x2 x3 x4 → va_P G vwCl (w_X10_closedSet Y h_t B_t B_t_current t_toldCount t_current_n t_current_cells) H → va_D A (w_X10_closedSet Y h_t B_t B_t_current t_toldCount t_current_n t_current_cells) → va_S A s.heap H locs → lv_has ls 7 [(0, .ref h_t), (2, .int x2), (3, .int x3), (4, .int x4)] → W p l e R s m args below meth c H locs 0 0 Q (F0 m 7 ls []) := ⟨_, hB7 x2 x3 x4 hI, fun x2 x3 x4 H locs ls hh hP hD hS hl => ih x2 x3 x4 H locs ls hh.1 (Nat.lt_of_lt_of_le hh.2 (Nat.le_of_lt_succ hm)) hP hD hS hl⟩
      refine lv_iload hx hb dX10_closedSet_7 (lv_at hl 3 rfl) ?_
      refine lv_aload_n hx hb dX10_closedSet_9 rfl (lv_at hl 0 rfl) ?_
      refine va_get (D := G) (ci := 9) (v := .ref (B_t 0)) (C := RX10) (T := TX10) (N := 15) hx hb hts inX10 hown hK hP 0 rfl rfl 0 (by decide) hf14 (fun _ h9 => h9) rfl dX10_closedSet_10 ?_
      refine va_getN (D := G) (ci := 6) (v := .int t_current_n) (C := RX7) (T := TX7) (N := 2) hx hb hts inX7 hown hK hP 1 rfl rfl 1 (by decide) (hE.nest args 0 _ rfl) (fun _ h9 => h9) rfl dX10_closedSet_13 ?_
      obtain ⟨ht, hf⟩ := h
      refine lv_icmp_ge (tgt := 105) hx hb dX10_closedSet_16 (by decide) (fun c9 => ?_) (fun c9 => ?_)
      · have h := ht c9
        refine lv_iload_n hx hb dX10_closedSet_105 rfl (lv_at hl 1 rfl) ?_
        exact hret x2  H locs ls _ hP hD hS h dX10_closedSet_106
      · have h := hf c9
        refine lv_iload_n hx hb dX10_closedSet_19 rfl (lv_at hl 1 rfl) ?_
        refine lv_iload_n hx hb dX10_closedSet_20 rfl (lv_at hl 2 rfl) ?_
        obtain ⟨ht, hf⟩ := h
        refine lv_icmp_eq (tgt := 105) hx hb dX10_closedSet_21 (by decide) (fun c9 => ?_) (fun c9 => ?_)
        · have h := ht c9
          refine lv_iload_n hx hb dX10_closedSet_105 rfl (lv_at hl 1 rfl) ?_
          exact hret x2  H locs ls _ hP hD hS h dX10_closedSet_106
        · have h := hf c9
          refine lv_iload_n hx hb dX10_closedSet_24 rfl (lv_at hl 1 rfl) ?_
          refine lv_istore_n (lv' := [(3, .int x2), (0, .ref h_t), (2, .int x2), (4, .int x4)]) hx hb dX10_closedSet_25 rfl hl (by decide) rfl (fun ls hl => ?_)
          refine lv_iconst (v := 0) hx hb dX10_closedSet_26 (by decide) ?_
          refine lv_istore (lv' := [(5, .int (0 : Int32)), (3, .int x2), (0, .ref h_t), (2, .int x2), (4, .int x4)]) hx hb dX10_closedSet_27 hl (by decide) rfl (fun ls hl => ?_)
          obtain ⟨I29, m29, hI29, hB29⟩ := h
          have L29 : ∀ (x3 : Int32) (x4 : Int32) (I29 : Int32 → Int32 → Prop) (m29 : Int32 → Int32 → Nat), (∀ (x2 : Int32) (x5 : Int32), I29 x2 x5 → pX10_closedSet_29 t_current_n t_current_cells R7 K x3 x4 x2 x5 (fun x2' x5' => I29 x2' x5' ∧ m29 x2' x5' < m29 x2 x5)) → ∀ (n : Nat) (x2 : Int32) (x5 : Int32) (H : Heap) (locs : List Loc) (ls : Array Slot), I29 x2 x5 → m29 x2 x5 < n → va_P G vwCl (w_X10_closedSet Y h_t B_t B_t_current t_toldCount t_current_n t_current_cells) H → va_D A (w_X10_closedSet Y h_t B_t B_t_current t_toldCount t_current_n t_current_cells) → va_S A s.heap H locs → lv_has ls 7 [(0, .ref h_t), (2, .int x2), (3, .int x3), (4, .int x4), (5, .int x5)] → W p l e R s m args below meth c H locs 0 0 Q (F0 m 29 ls []) := by
            intro x3 x4 I29 m29 hB29 n
            induction n with
            | zero => intro x2 x5 H locs ls _ hm; exact absurd hm (Nat.not_lt_zero _)
            | succ n ih =>
              intro x2 x5 H locs ls hI hm hP hD hS hl
              obtain ⟨R29, h, rec29⟩ : ∃ R29 : Int32 → Int32 → Prop, pX10_closedSet_29 t_current_n t_current_cells R7 K x3 x4 x2 x5 R29 ∧ ∀ (x2 : Int32) (x5 : Int32) (H : Heap) (locs : List Loc) (ls : Array Slot), R29 x2 x5 → va_P G vwCl (w_X10_closedSet Y h_t B_t B_t_current t_toldCount t_current_n t_current_cells) H → va_D A (w_X10_closedSet Y h_t B_t B_t_current t_toldCount t_current_n t_current_cells) → va_S A s.heap H locs → lv_has ls 7 [(0, .ref h_t), (2, .int x2), (3, .int x3), (4, .int x4), (5, .int x5)] → W p l e R s m args below meth c H locs 0 0 Q (F0 m 29 ls []) := ⟨_, hB29 x2 x5 hI, fun x2 x5 H locs ls hh hP hD hS hl => ih x2 x5 H locs ls hh.1 (Nat.lt_of_lt_of_le hh.2 (Nat.le_of_lt_succ hm)) hP hD hS hl⟩
              refine lv_iload hx hb dX10_closedSet_29 (lv_at hl 4 rfl) ?_
              refine lv_aload_n hx hb dX10_closedSet_31 rfl (lv_at hl 0 rfl) ?_
              refine va_get (D := G) (ci := 9) (v := .ref (B_t 0)) (C := RX10) (T := TX10) (N := 15) hx hb hts inX10 hown hK hP 0 rfl rfl 0 (by decide) hf14 (fun _ h9 => h9) rfl dX10_closedSet_32 ?_
              refine va_getN (D := G) (ci := 6) (v := .int t_current_n) (C := RX7) (T := TX7) (N := 2) hx hb hts inX7 hown hK hP 1 rfl rfl 1 (by decide) (hE.nest args 0 _ rfl) (fun _ h9 => h9) rfl dX10_closedSet_35 ?_
              obtain ⟨ht, hf⟩ := h
              refine lv_icmp_ge (tgt := 99) hx hb dX10_closedSet_38 (by decide) (fun c9 => ?_) (fun c9 => ?_)
              · have h := ht c9
                refine lv_iinc (v := (x4 + 1)) (lv' := [(4, .int (x4 + 1)), (0, .ref h_t), (2, .int x2), (3, .int x3), (5, .int x5)]) hx hb dX10_closedSet_99 hl (k := 3) rfl rfl (by decide) rfl (fun ls hl => ?_)
                refine lv_goto (tgt := 7) hx hb dX10_closedSet_102 (by decide) ?_
                exact rec7 x2 x3 (x4 + 1) H locs ls h hP hD hS (lv_sub hl [1, 2, 3, 0] rfl)
              · have h := hf c9
                refine lv_iconst (v := 0) hx hb dX10_closedSet_41 (by decide) ?_
                refine lv_istore (lv' := [(6, .int (0 : Int32)), (0, .ref h_t), (2, .int x2), (3, .int x3), (4, .int x4), (5, .int x5)]) hx hb dX10_closedSet_42 hl (by decide) rfl (fun ls hl => ?_)
                obtain ⟨I44, m44, hI44, hB44⟩ := h
                have L44 : ∀ (x5 : Int32) (I44 : Int32 → Int32 → Prop) (m44 : Int32 → Int32 → Nat), (∀ (x2 : Int32) (x6 : Int32), I44 x2 x6 → pX10_closedSet_44 t_current_n t_current_cells R7 R29 K x3 x4 x5 x2 x6 (fun x2' x6' => I44 x2' x6' ∧ m44 x2' x6' < m44 x2 x6)) → ∀ (n : Nat) (x2 : Int32) (x6 : Int32) (H : Heap) (locs : List Loc) (ls : Array Slot), I44 x2 x6 → m44 x2 x6 < n → va_P G vwCl (w_X10_closedSet Y h_t B_t B_t_current t_toldCount t_current_n t_current_cells) H → va_D A (w_X10_closedSet Y h_t B_t B_t_current t_toldCount t_current_n t_current_cells) → va_S A s.heap H locs → lv_has ls 7 [(0, .ref h_t), (2, .int x2), (3, .int x3), (4, .int x4), (5, .int x5), (6, .int x6)] → W p l e R s m args below meth c H locs 0 0 Q (F0 m 44 ls []) := by
                  intro x5 I44 m44 hB44 n
                  induction n with
                  | zero => intro x2 x6 H locs ls _ hm; exact absurd hm (Nat.not_lt_zero _)
                  | succ n ih =>
                    intro x2 x6 H locs ls hI hm hP hD hS hl
                    obtain ⟨R44, h, rec44⟩ : ∃ R44 : Int32 → Int32 → Prop, pX10_closedSet_44 t_current_n t_current_cells R7 R29 K x3 x4 x5 x2 x6 R44 ∧ ∀ (x2 : Int32) (x6 : Int32) (H : Heap) (locs : List Loc) (ls : Array Slot), R44 x2 x6 → va_P G vwCl (w_X10_closedSet Y h_t B_t B_t_current t_toldCount t_current_n t_current_cells) H → va_D A (w_X10_closedSet Y h_t B_t B_t_current t_toldCount t_current_n t_current_cells) → va_S A s.heap H locs → lv_has ls 7 [(0, .ref h_t), (2, .int x2), (3, .int x3), (4, .int x4), (5, .int x5), (6, .int x6)] → W p l e R s m args below meth c H locs 0 0 Q (F0 m 44 ls []) := ⟨_, hB44 x2 x6 hI, fun x2 x6 H locs ls hh hP hD hS hl => ih x2 x6 H locs ls hh.1 (Nat.lt_of_lt_of_le hh.2 (Nat.le_of_lt_succ hm)) hP hD hS hl⟩
                    refine lv_iload hx hb dX10_closedSet_44 (lv_at hl 5 rfl) ?_
                    refine lv_aload_n hx hb dX10_closedSet_46 rfl (lv_at hl 0 rfl) ?_
                    refine va_get (D := G) (ci := 9) (v := .ref (B_t 0)) (C := RX10) (T := TX10) (N := 15) hx hb hts inX10 hown hK hP 0 rfl rfl 0 (by decide) hf14 (fun _ h9 => h9) rfl dX10_closedSet_47 ?_
                    refine va_getN (D := G) (ci := 6) (v := .int t_current_n) (C := RX7) (T := TX7) (N := 2) hx hb hts inX7 hown hK hP 1 rfl rfl 1 (by decide) (hE.nest args 0 _ rfl) (fun _ h9 => h9) rfl dX10_closedSet_50 ?_
                    obtain ⟨ht, hf⟩ := h
                    refine lv_icmp_ge (tgt := 93) hx hb dX10_closedSet_53 (by decide) (fun c9 => ?_) (fun c9 => ?_)
                    · have h := ht c9
                      refine lv_iinc (v := (x5 + 1)) (lv' := [(5, .int (x5 + 1)), (0, .ref h_t), (2, .int x2), (3, .int x3), (4, .int x4), (6, .int x6)]) hx hb dX10_closedSet_93 hl (k := 4) rfl rfl (by decide) rfl (fun ls hl => ?_)
                      refine lv_goto (tgt := 29) hx hb dX10_closedSet_96 (by decide) ?_
                      exact rec29 x2 (x5 + 1) H locs ls h hP hD hS (lv_sub hl [1, 2, 3, 4, 0] rfl)
                    · have h := hf c9
                      refine lv_iload_n hx hb dX10_closedSet_56 rfl (lv_at hl 1 rfl) ?_
                      refine lv_iload hx hb dX10_closedSet_57 (lv_at hl 4 rfl) ?_
                      refine lv_ishr hx hb dX10_closedSet_59 ?_
                      refine lv_iload_n hx hb dX10_closedSet_60 rfl (lv_at hl 1 rfl) ?_
                      refine lv_iload hx hb dX10_closedSet_61 (lv_at hl 5 rfl) ?_
                      refine lv_ishr hx hb dX10_closedSet_63 ?_
                      refine lv_iand hx hb dX10_closedSet_64 ?_
                      refine lv_iconst (v := 1) hx hb dX10_closedSet_65 (by decide) ?_
                      refine lv_iand hx hb dX10_closedSet_66 ?_
                      refine lv_iconst (v := 1) hx hb dX10_closedSet_67 (by decide) ?_
                      obtain ⟨ht, hf⟩ := h
                      refine lv_icmp_ne (tgt := 87) hx hb dX10_closedSet_68 (by decide) (fun c9 => ?_) (fun c9 => ?_)
                      · have h := ht c9
                        refine lv_iinc (v := (x6 + 1)) (lv' := [(6, .int (x6 + 1)), (0, .ref h_t), (2, .int x2), (3, .int x3), (4, .int x4), (5, .int x5)]) hx hb dX10_closedSet_87 hl (k := 5) rfl rfl (by decide) rfl (fun ls hl => ?_)
                        refine lv_goto (tgt := 44) hx hb dX10_closedSet_90 (by decide) ?_
                        exact rec44 x2 (x6 + 1) H locs ls h hP hD hS (lv_sub hl [1, 2, 3, 4, 5, 0] rfl)
                      · have h := hf c9
                        refine lv_iload_n hx hb dX10_closedSet_71 rfl (lv_at hl 1 rfl) ?_
                        refine lv_iconst (v := 1) hx hb dX10_closedSet_72 (by decide) ?_
                        refine lv_aload_n hx hb dX10_closedSet_73 rfl (lv_at hl 0 rfl) ?_
                        refine va_get (D := G) (ci := 9) (v := .ref (B_t 0)) (C := RX10) (T := TX10) (N := 15) hx hb hts inX10 hown hK hP 0 rfl rfl 0 (by decide) hf14 (fun _ h9 => h9) rfl dX10_closedSet_74 ?_
                        refine lv_iload hx hb dX10_closedSet_77 (lv_at hl 4 rfl) ?_
                        refine lv_iload hx hb dX10_closedSet_79 (lv_at hl 5 rfl) ?_
                        refine mc_iV ⟨hx, hb, hml, hown, hts⟩ hK hE hA hP hD hS (c_X7_turned l G Y tF H.size (B_t 0) B_t_current t_current_n t_current_cells x5 x6 h) (cwV 2 hts gX10_closedSet_X7_turned rfl rfl rfl (by decide +kernel) ⟨Nat.le_trans (by decide) hRf, Nat.le_trans (by decide) hRl⟩) (fun u => (w_X10_closedSet Y h_t B_t B_t_current t_toldCount t_current_n t_current_cells)) [1, 2] [0] [0, 1, 2] rfl rfl rfl rfl (by decide) (fun _ => rfl) rfl 1 6 rfl rfl rfl rfl hl.1 rfl (Nat.le_of_ble_eq_true rfl) dX10_closedSet_81 (fun r81 u H locs h hP hD hS => ?_)
                        try dsimp only at h
                        have hP : va_P G vwCl (w_X10_closedSet Y h_t B_t B_t_current t_toldCount t_current_n t_current_cells) H := hP
                        have hD : va_D A (w_X10_closedSet Y h_t B_t B_t_current t_toldCount t_current_n t_current_cells) := hD
                        refine lv_ishl hx hb dX10_closedSet_84 ?_
                        refine lv_ior hx hb dX10_closedSet_85 ?_
                        refine lv_istore_n (lv' := [(2, .int (x2 ||| ((1 : Int32) <<< (r81 &&& 31)))), (0, .ref h_t), (3, .int x3), (4, .int x4), (5, .int x5), (6, .int x6)]) hx hb dX10_closedSet_86 rfl hl (by decide) rfl (fun ls hl => ?_)
                        refine lv_iinc (v := (x6 + 1)) (lv' := [(6, .int (x6 + 1)), (2, .int (x2 ||| ((1 : Int32) <<< (r81 &&& 31)))), (0, .ref h_t), (3, .int x3), (4, .int x4), (5, .int x5)]) hx hb dX10_closedSet_87 hl (k := 5) rfl rfl (by decide) rfl (fun ls hl => ?_)
                        refine lv_goto (tgt := 44) hx hb dX10_closedSet_90 (by decide) ?_
                        exact rec44 (x2 ||| ((1 : Int32) <<< (r81 &&& 31))) (x6 + 1) H locs ls h hP hD hS (lv_sub hl [2, 1, 3, 4, 5, 0] rfl)
                exact L44 x5 I44 m44 hB44 _ x2 (0 : Int32) H locs ls hI44 (Nat.lt_succ_self _) hP hD hS (lv_sub hl [1, 2, 3, 4, 5, 0] rfl)
          exact L29 x2 x4 I29 m29 hB29 _ x2 (0 : Int32) H locs ls hI29 (Nat.lt_succ_self _) hP hD hS (lv_sub hl [2, 3, 1, 4, 0] rfl)
  exact L7  I7 m7 hB7 _ x1 (0 : Int32) (0 : Int32) H locs ls hI7 (Nat.lt_succ_self _) hP hD hS (lv_sub hl [3, 2, 1, 0] rfl)

set_option maxHeartbeats 20000000 in
set_option maxRecDepth 100000 in
theorem c_X10_closedSet (l : Launch) (G : va_G) (Y : Nat → ClassId) (tF sz : Nat) (h_t : Nat) (B_t : Nat → Nat) (B_t_current : Nat → Nat) (t_toldCount : Int32) (t_current_n : Int32) (t_current_cells : Nat → Int32) (x1 : Int32) {K : Int32 → Prop} (h : pX10_closedSet t_current_n t_current_cells x1 K) : Met l yX10_closedSet wsX10_closedSet ({ frames := 1, cells := 0, slots := 0, locals := 22 }) (PcM G Y tF sz (w_X10_closedSet Y h_t B_t B_t_current t_toldCount t_current_n t_current_cells) [.ref h_t, .int x1]) (va_Qi (fun (r : Int32) (u : Unit) => K r ) (fun u t => BM G Y (va_A (w_X10_closedSet Y h_t B_t B_t_current t_toldCount t_current_n t_current_cells) sz) (w_X10_closedSet Y h_t B_t B_t_current t_toldCount t_current_n t_current_cells) t) (va_A (w_X10_closedSet Y h_t B_t B_t_current t_toldCount t_current_n t_current_cells) sz)) 0 0 (va_A (w_X10_closedSet Y h_t B_t B_t_current t_toldCount t_current_n t_current_cells) sz) := by
  refine Met.ofW (cc := cX10_closedSet) (maxL := 7) (ret := (some .int)) (by decide +kernel) rfl ?_
  intro p e s m args below meth c s₁ B hml hv
  obtain ⟨rfl, hsz, hP, hK, hD0, hE⟩ := hv
  have hts := atoms_spec (ws := wsX10_closedSet) B.pre
  have hown : s.vm.findClass RX10 = some m.cls := findClass_of_methodNamed B.named
  have hlocks := B.notSynchronized
  subst hsz
  have hD := hD0.self (sz := s.heap.size)
  exact wk_X10_closedSet h_t B_t B_t_current t_toldCount t_current_n t_current_cells x1 B.exec B.bytes hml hown hts hK hE (fun q h => Or.inr h) (Nat.le_refl _) (Nat.le_refl _) (fun r  H locs ls pc hP hD hS hk hd => W.iret (v := r) B.exec B.bytes B.returns (fun t ht hW => ⟨⟨r, (), rfl, hk, by rw [ht]; exact hP, va_K.moved hW.alike hK, hD⟩, hS.F ht⟩) hS.2.2 hd) hP hD h

abbrev w_X10_within (Y : Nat → ClassId) (h_t : Nat) (B_t : Nat → Nat) (B_t_current : Nat → Nat) (t_toldCount : Int32) (t_current_n : Int32) (t_current_cells : Nat → Int32) (t_told : Nat → Int32) : va_W := [(h_t, .inr (9, [.ref (B_t 0), .ref (B_t 1), .ref (B_t 2), .ref (B_t 3), .ref (B_t 4), .ref (B_t 5), .ref (B_t 6), .ref (B_t 7), .ref (B_t 8), .ref (B_t 9), .ref (B_t 10), .ref (B_t 11), .ref (B_t 12), .ref (B_t 13), .int t_toldCount])), ((B_t 0), .inr (6, [.ref (B_t_current 0), .int t_current_n])), ((B_t_current 0), .inl (Y 0, 64, .inl t_current_cells)), ((B_t 13), .inl (Y 0, 8, .inl t_told))]

set_option maxHeartbeats 20000000 in
set_option maxRecDepth 100000 in
theorem wk_X10_within {p : Program} {l : Launch} {e : Env} {R : Room} {s : State} {m : MethodId} {args : Array Value} {below : List Frame} {meth : Method} {c : Code} {Q : State → Prop} {G : va_G} {Y : Nat → ClassId} {tF : Nat} {A : Nat → Prop} (h_t : Nat) (B_t : Nat → Nat) (B_t_current : Nat → Nat) (t_toldCount : Int32) (t_current_n : Int32) (t_current_cells : Nat → Int32) (t_told : Nat → Int32) (x1 : Int32) {K : Int32 → Int32 → (Nat → Int32) → Prop} (hx : p.tables.exec = Jvm.exec) (hb : c.code = cX10_within) (hml : c.maxLocals = 4) (hown : s.vm.findClass RX10 = some m.cls) (hts : ∀ w ∈ wsX10_within, w.before args s = true) (hK : va_K G vwCl (tyL Y) s) (hE : Ev A tF s) (hA : ∀ q, s.heap.size ≤ q → A q) (hRf : 2 ≤ R.frames) (hRl : 48 ≤ R.locals) (hret : ∀ (r : Int32) (t_toldCount : Int32) (t_told : Nat → Int32) (H : Heap) (locs : List Loc) (ls : Array Slot) (pc : Nat), va_P G vwCl (w_X10_within Y h_t B_t B_t_current t_toldCount t_current_n t_current_cells t_told) H → va_D A (w_X10_within Y h_t B_t B_t_current t_toldCount t_current_n t_current_cells t_told) → va_S A s.heap H locs → K r t_toldCount t_told → decode cX10_within pc = .ok (.ireturn, 1) → W p l e R s m args below meth c H locs 0 0 Q (F0 m pc ls [.int r])) (hP : va_P G vwCl (w_X10_within Y h_t B_t B_t_current t_toldCount t_current_n t_current_cells t_told) s.heap) (hD : va_D A (w_X10_within Y h_t B_t B_t_current t_toldCount t_current_n t_current_cells t_told)) (h : pX10_within t_toldCount t_current_n t_current_cells t_told x1 K) : W p l e R s m args below meth c s.heap [] 0 0 Q (entryFrame m ([.ref h_t, .int x1] : List Value).toArray 4) := by
  have inX10 : ∀ w ∈ u_ws RX10 TX10 15, w ∈ wsX10_within := by decide +kernel
  have inX7 : ∀ w ∈ u_ws RX7 TX7 2, w ∈ wsX10_within := by decide +kernel
  have hf14 := hts (.fieldLink RX10 14 "RackBench" "current" "LRackBench$Table;") (by decide +kernel)
  have hf91 := hts (.fieldLink RX10 91 "RackBench" "toldCount" "I") (by decide +kernel)
  have hl := lv_entry ([.ref h_t, .int x1]) (n := 4) (Nat.le_of_ble_eq_true rfl)
  rw [lg_entry_eq]
  generalize (lg_sl ([.ref h_t, .int x1]) ++ List.replicate (4 - (lg_sl ([.ref h_t, .int x1])).length) Slot.unset).toArray = ls at hl ⊢
  have hl : lv_has ls 4 [(0, .ref h_t), (1, .int x1)] := hl
  generalize hH0 : s.heap = H at hP ⊢
  have hS : va_S A s.heap H [] := by rw [← hH0]; exact va_S.rf
  clear hH0
  generalize ([] : List Loc) = locs at hS ⊢
  refine lv_iload_n hx hb dX10_within_0 rfl (lv_at hl 1 rfl) ?_
  obtain ⟨ht, hf⟩ := h
  refine lv_if_le (tgt := 17) hx hb dX10_within_1 (by decide) (fun c9 => ?_) (fun c9 => ?_)
  · have h := ht c9
    refine lv_iconst (v := -1) hx hb dX10_within_17 (by decide) ?_
    exact hret (-1 : Int32) t_toldCount t_told H locs ls _ hP hD hS h dX10_within_18
  · have h := hf c9
    refine lv_iload_n hx hb dX10_within_4 rfl (lv_at hl 1 rfl) ?_
    refine lv_iconst (v := 1) hx hb dX10_within_5 (by decide) ?_
    refine lv_aload_n hx hb dX10_within_6 rfl (lv_at hl 0 rfl) ?_
    refine va_get (D := G) (ci := 9) (v := .ref (B_t 0)) (C := RX10) (T := TX10) (N := 15) hx hb hts inX10 hown hK hP 0 rfl rfl 0 (by decide) hf14 (fun _ h9 => h9) rfl dX10_within_7 ?_
    refine va_getN (D := G) (ci := 6) (v := .int t_current_n) (C := RX7) (T := TX7) (N := 2) hx hb hts inX7 hown hK hP 1 rfl rfl 1 (by decide) (hE.nest args 0 _ rfl) (fun _ h9 => h9) rfl dX10_within_10 ?_
    refine lv_ishl hx hb dX10_within_13 ?_
    obtain ⟨ht, hf⟩ := h
    refine lv_icmp_lt (tgt := 19) hx hb dX10_within_14 (by decide) (fun c9 => ?_) (fun c9 => ?_)
    · have h := ht c9
      refine lv_aload_n hx hb dX10_within_19 rfl (lv_at hl 0 rfl) ?_
      refine lv_iload_n hx hb dX10_within_20 rfl (lv_at hl 1 rfl) ?_
      refine mc_iV ⟨hx, hb, hml, hown, hts⟩ hK hE hA hP hD hS (c_X10_closedSet l G Y tF H.size h_t B_t B_t_current t_toldCount t_current_n t_current_cells x1 h) (cwV 1 hts gX10_within_X10_closedSet rfl rfl rfl (by decide +kernel) ⟨Nat.le_trans (by decide) hRf, Nat.le_trans (by decide) hRl⟩) (fun u => (w_X10_within Y h_t B_t B_t_current t_toldCount t_current_n t_current_cells t_told)) [0, 1, 2] [3] [1, 2, 3, 0] rfl rfl rfl rfl (by decide) (fun _ => rfl) rfl 0 9 rfl rfl rfl rfl hl.1 rfl (Nat.le_of_ble_eq_true rfl) dX10_within_21 (fun r21 u H locs h hP hD hS => ?_)
      try dsimp only at h
      have hP : va_P G vwCl (w_X10_within Y h_t B_t B_t_current t_toldCount t_current_n t_current_cells t_told) H := hP
      have hD : va_D A (w_X10_within Y h_t B_t B_t_current t_toldCount t_current_n t_current_cells t_told) := hD
      refine lv_istore_n (lv' := [(2, .int r21), (0, .ref h_t), (1, .int x1)]) hx hb dX10_within_24 rfl hl (by decide) rfl (fun ls hl => ?_)
      refine lv_aload_n hx hb dX10_within_25 rfl (lv_at hl 1 rfl) ?_
      refine lv_iconst (v := 0) hx hb dX10_within_26 (by decide) ?_
      refine va_put (D := G) (ci := 9) (v := .int (0 : Int32)) (ty := .int) (C := RX10) (T := TX10) (N := 15) hx hb hts inX10 tyX10 tyX10_ok nmX10 hown hK hP hD hS 0 rfl rfl 14 (by decide) hf91 (fun _ h9 => h9) rfl (by decide +kernel) rfl rfl (Nat.le_of_ble_eq_true rfl) dX10_within_27 (fun H locs hP hD hS => ?_)
      have hP : va_P G vwCl (w_X10_within Y h_t B_t B_t_current (0 : Int32) t_current_n t_current_cells t_told) H := hP
      have hD : va_D A (w_X10_within Y h_t B_t B_t_current (0 : Int32) t_current_n t_current_cells t_told) := hD
      refine lv_iconst (v := 0) hx hb dX10_within_30 (by decide) ?_
      refine lv_istore_n (lv' := [(3, .int (0 : Int32)), (2, .int r21), (0, .ref h_t), (1, .int x1)]) hx hb dX10_within_31 rfl hl (by decide) rfl (fun ls hl => ?_)
      obtain ⟨I32, m32, hI32, hB32⟩ := h
      have L32 : ∀ (x2 : Int32) (I32 : Int32 → Int32 → (Nat → Int32) → Prop) (m32 : Int32 → Int32 → (Nat → Int32) → Nat), (∀ (x3 : Int32) (t_toldCount : Int32) (t_told : Nat → Int32), I32 x3 t_toldCount t_told → pX10_within_32 t_current_n t_current_cells K x2 x3 t_toldCount t_told (fun x3' t_toldCount' t_told' => I32 x3' t_toldCount' t_told' ∧ m32 x3' t_toldCount' t_told' < m32 x3 t_toldCount t_told)) → ∀ (n : Nat) (x3 : Int32) (t_toldCount : Int32) (t_told : Nat → Int32) (H : Heap) (locs : List Loc) (ls : Array Slot), I32 x3 t_toldCount t_told → m32 x3 t_toldCount t_told < n → va_P G vwCl (w_X10_within Y h_t B_t B_t_current t_toldCount t_current_n t_current_cells t_told) H → va_D A (w_X10_within Y h_t B_t B_t_current t_toldCount t_current_n t_current_cells t_told) → va_S A s.heap H locs → lv_has ls 4 [(0, .ref h_t), (2, .int x2), (3, .int x3)] → W p l e R s m args below meth c H locs 0 0 Q (F0 m 32 ls []) := by
        intro x2 I32 m32 hB32 n
        induction n with
        | zero => intro x3 t_toldCount t_told H locs ls _ hm; exact absurd hm (Nat.not_lt_zero _)
        | succ n ih =>
          intro x3 t_toldCount t_told H locs ls hI hm hP hD hS hl
          obtain ⟨R32, h, rec32⟩ : ∃ R32 : Int32 → Int32 → (Nat → Int32) → Prop, pX10_within_32 t_current_n t_current_cells K x2 x3 t_toldCount t_told R32 ∧ ∀ (x3 : Int32) (t_toldCount : Int32) (t_told : Nat → Int32) (H : Heap) (locs : List Loc) (ls : Array Slot), R32 x3 t_toldCount t_told → va_P G vwCl (w_X10_within Y h_t B_t B_t_current t_toldCount t_current_n t_current_cells t_told) H → va_D A (w_X10_within Y h_t B_t B_t_current t_toldCount t_current_n t_current_cells t_told) → va_S A s.heap H locs → lv_has ls 4 [(0, .ref h_t), (2, .int x2), (3, .int x3)] → W p l e R s m args below meth c H locs 0 0 Q (F0 m 32 ls []) := ⟨_, hB32 x3 t_toldCount t_told hI, fun x3 t_toldCount t_told H locs ls hh hP hD hS hl => ih x3 t_toldCount t_told H locs ls hh.1 (Nat.lt_of_lt_of_le hh.2 (Nat.le_of_lt_succ hm)) hP hD hS hl⟩
          refine lv_iload_n hx hb dX10_within_32 rfl (lv_at hl 2 rfl) ?_
          refine lv_aload_n hx hb dX10_within_33 rfl (lv_at hl 0 rfl) ?_
          refine va_get (D := G) (ci := 9) (v := .ref (B_t 0)) (C := RX10) (T := TX10) (N := 15) hx hb hts inX10 hown hK hP 0 rfl rfl 0 (by decide) hf14 (fun _ h9 => h9) rfl dX10_within_34 ?_
          refine va_getN (D := G) (ci := 6) (v := .int t_current_n) (C := RX7) (T := TX7) (N := 2) hx hb hts inX7 hown hK hP 1 rfl rfl 1 (by decide) (hE.nest args 0 _ rfl) (fun _ h9 => h9) rfl dX10_within_37 ?_
          obtain ⟨ht, hf⟩ := h
          refine lv_icmp_ge (tgt := 63) hx hb dX10_within_40 (by decide) (fun c9 => ?_) (fun c9 => ?_)
          · have h := ht c9
            refine lv_aload_n hx hb dX10_within_63 rfl (lv_at hl 0 rfl) ?_
            refine va_get (D := G) (ci := 9) (v := .int t_toldCount) (C := RX10) (T := TX10) (N := 15) hx hb hts inX10 hown hK hP 0 rfl rfl 14 (by decide) hf91 (fun _ h9 => h9) rfl dX10_within_64 ?_
            exact hret t_toldCount t_toldCount t_told H locs ls _ hP hD hS h dX10_within_67
          · have h := hf c9
            refine lv_iload_n hx hb dX10_within_43 rfl (lv_at hl 1 rfl) ?_
            refine lv_iload_n hx hb dX10_within_44 rfl (lv_at hl 2 rfl) ?_
            refine lv_ishr hx hb dX10_within_45 ?_
            refine lv_iconst (v := 1) hx hb dX10_within_46 (by decide) ?_
            refine lv_iand hx hb dX10_within_47 ?_
            refine lv_iconst (v := 1) hx hb dX10_within_48 (by decide) ?_
            obtain ⟨ht, hf⟩ := h
            refine lv_icmp_ne (tgt := 57) hx hb dX10_within_49 (by decide) (fun c9 => ?_) (fun c9 => ?_)
            · have h := ht c9
              refine lv_iinc (v := (x3 + 1)) (lv' := [(3, .int (x3 + 1)), (0, .ref h_t), (2, .int x2)]) hx hb dX10_within_57 hl (k := 2) rfl rfl (by decide) rfl (fun ls hl => ?_)
              refine lv_goto (tgt := 32) hx hb dX10_within_60 (by decide) ?_
              exact rec32 (x3 + 1) t_toldCount t_told H locs ls h hP hD hS (lv_sub hl [1, 2, 0] rfl)
            · have h := hf c9
              refine lv_aload_n hx hb dX10_within_52 rfl (lv_at hl 0 rfl) ?_
              refine lv_iload_n hx hb dX10_within_53 rfl (lv_at hl 2 rfl) ?_
              refine mc_vV ⟨hx, hb, hml, hown, hts⟩ hK hE hA hP hD hS (c_X10_tell l G Y tF H.size h_t B_t t_toldCount t_told x3 h) (cwV 1 hts gX10_within_X10_tell rfl rfl rfl (by decide +kernel) ⟨Nat.le_trans (by decide) hRf, Nat.le_trans (by decide) hRl⟩) (fun u => (w_X10_within Y h_t B_t B_t_current u.1 t_current_n t_current_cells u.2)) [0, 3] [1, 2] [2, 0, 1, 3] rfl rfl rfl rfl (by decide) (fun _ => rfl) rfl 0 9 rfl rfl rfl rfl hl.1 rfl (Nat.le_of_ble_eq_true rfl) dX10_within_54 (fun u H locs h hP hD hS => ?_)
              obtain ⟨t_toldCount_54, t_told_54⟩ := u
              try dsimp only at h
              have hP : va_P G vwCl (w_X10_within Y h_t B_t B_t_current t_toldCount_54 t_current_n t_current_cells t_told_54) H := hP
              have hD : va_D A (w_X10_within Y h_t B_t B_t_current t_toldCount_54 t_current_n t_current_cells t_told_54) := hD
              refine lv_iinc (v := (x3 + 1)) (lv' := [(3, .int (x3 + 1)), (0, .ref h_t), (2, .int x2)]) hx hb dX10_within_57 hl (k := 2) rfl rfl (by decide) rfl (fun ls hl => ?_)
              refine lv_goto (tgt := 32) hx hb dX10_within_60 (by decide) ?_
              exact rec32 (x3 + 1) t_toldCount_54 t_told_54 H locs ls h hP hD hS (lv_sub hl [1, 2, 0] rfl)
      exact L32 r21 I32 m32 hB32 _ (0 : Int32) (0 : Int32) t_told H locs ls hI32 (Nat.lt_succ_self _) hP hD hS (lv_sub hl [2, 1, 0] rfl)
    · have h := hf c9
      refine lv_iconst (v := -1) hx hb dX10_within_17 (by decide) ?_
      exact hret (-1 : Int32) t_toldCount t_told H locs ls _ hP hD hS h dX10_within_18

set_option maxHeartbeats 20000000 in
set_option maxRecDepth 100000 in
theorem c_X10_within (l : Launch) (G : va_G) (Y : Nat → ClassId) (tF sz : Nat) (h_t : Nat) (B_t : Nat → Nat) (B_t_current : Nat → Nat) (t_toldCount : Int32) (t_current_n : Int32) (t_current_cells : Nat → Int32) (t_told : Nat → Int32) (x1 : Int32) {K : Int32 → Int32 → (Nat → Int32) → Prop} (h : pX10_within t_toldCount t_current_n t_current_cells t_told x1 K) : Met l yX10_within wsX10_within ({ frames := 2, cells := 0, slots := 0, locals := 48 }) (PcM G Y tF sz (w_X10_within Y h_t B_t B_t_current t_toldCount t_current_n t_current_cells t_told) [.ref h_t, .int x1]) (va_Qi (fun (r : Int32) (u : Int32 × (Nat → Int32)) => K r u.1 u.2) (fun u t => BM G Y (va_A (w_X10_within Y h_t B_t B_t_current t_toldCount t_current_n t_current_cells t_told) sz) (w_X10_within Y h_t B_t B_t_current u.1 t_current_n t_current_cells u.2) t) (va_A (w_X10_within Y h_t B_t B_t_current t_toldCount t_current_n t_current_cells t_told) sz)) 0 0 (va_A (w_X10_within Y h_t B_t B_t_current t_toldCount t_current_n t_current_cells t_told) sz) := by
  refine Met.ofW (cc := cX10_within) (maxL := 4) (ret := (some .int)) (by decide +kernel) rfl ?_
  intro p e s m args below meth c s₁ B hml hv
  obtain ⟨rfl, hsz, hP, hK, hD0, hE⟩ := hv
  have hts := atoms_spec (ws := wsX10_within) B.pre
  have hown : s.vm.findClass RX10 = some m.cls := findClass_of_methodNamed B.named
  have hlocks := B.notSynchronized
  subst hsz
  have hD := hD0.self (sz := s.heap.size)
  exact wk_X10_within h_t B_t B_t_current t_toldCount t_current_n t_current_cells t_told x1 B.exec B.bytes hml hown hts hK hE (fun q h => Or.inr h) (Nat.le_refl _) (Nat.le_refl _) (fun r t_toldCount t_told H locs ls pc hP hD hS hk hd => W.iret (v := r) B.exec B.bytes B.returns (fun t ht hW => ⟨⟨r, (t_toldCount, t_told), rfl, hk, by rw [ht]; exact hP, va_K.moved hW.alike hK, hD⟩, hS.F ht⟩) hS.2.2 hd) hP hD h

