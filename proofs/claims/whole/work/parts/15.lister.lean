abbrev w_X2_keepTrial (Y : Nat → ClassId) (h_t : Nat) (B_t : Nat → Nat) (B_t_racks : Nat → Nat) (B_t_trial : Nat → Nat) (t_racks : Nat → Nat → Int32) (t_sizes : Nat → Int32) (t_trial_n : Int32) (t_trial_cells : Nat → Int32) : va_W := [(h_t, .inr (2, [.ref (B_t 0), .ref (B_t 1), .ref (B_t 2)])), ((B_t 0), .inl (Y 3, 5, .inr (.inr (.inr (.inr (fun i => if i < 5 then some (B_t_racks i) else none)))))), ((B_t_racks 0), .inl (Y 0, 19, .inl (t_racks 0))), ((B_t_racks 1), .inl (Y 0, 19, .inl (t_racks 1))), ((B_t_racks 2), .inl (Y 0, 19, .inl (t_racks 2))), ((B_t_racks 3), .inl (Y 0, 19, .inl (t_racks 3))), ((B_t_racks 4), .inl (Y 0, 19, .inl (t_racks 4))), ((B_t 1), .inl (Y 0, 5, .inl t_sizes)), ((B_t 2), .inr (6, [.ref (B_t_trial 0), .int t_trial_n])), ((B_t_trial 0), .inl (Y 0, 64, .inl t_trial_cells))]

set_option maxHeartbeats 4000000 in
set_option maxRecDepth 100000 in
theorem wk_X2_keepTrial {p : Program} {l : Launch} {e : Env} {R : Room} {s : State} {m : MethodId} {args : Array Value} {below : List Frame} {meth : Method} {c : Code} {Q : State → Prop} {G : va_G} {Y : Nat → ClassId} {tF : Nat} {A : Nat → Prop} (h_t : Nat) (B_t : Nat → Nat) (B_t_racks : Nat → Nat) (B_t_trial : Nat → Nat) (t_racks : Nat → Nat → Int32) (t_sizes : Nat → Int32) (t_trial_n : Int32) (t_trial_cells : Nat → Int32) {K : (Nat → Nat → Int32) → (Nat → Int32) → Prop} (hx : p.tables.exec = Jvm.exec) (hb : c.code = cX2_keepTrial) (hml : c.maxLocals = 5) (hown : s.vm.findClass RX2 = some m.cls) (hts : ∀ w ∈ wsX2_keepTrial, w.before args s = true) (hK : va_K G vwCl (tyL Y) s) (hE : Ev A tF s) (hA : ∀ q, s.heap.size ≤ q → A q) (hRf : 1 ≤ R.frames) (hRl : 22 ≤ R.locals) (hret : ∀ (t_racks : Nat → Nat → Int32) (t_sizes : Nat → Int32) (H : Heap) (locs : List Loc) (ls : Array Slot) (pc : Nat), va_P G vwCl (w_X2_keepTrial Y h_t B_t B_t_racks B_t_trial t_racks t_sizes t_trial_n t_trial_cells) H → va_D A (w_X2_keepTrial Y h_t B_t B_t_racks B_t_trial t_racks t_sizes t_trial_n t_trial_cells) → va_S A s.heap H locs → K t_racks t_sizes → decode cX2_keepTrial pc = .ok (.return_, 1) → W p l e R s m args below meth c H locs 0 0 Q (F0 m pc ls [])) (hP : va_P G vwCl (w_X2_keepTrial Y h_t B_t B_t_racks B_t_trial t_racks t_sizes t_trial_n t_trial_cells) s.heap) (hD : va_D A (w_X2_keepTrial Y h_t B_t B_t_racks B_t_trial t_racks t_sizes t_trial_n t_trial_cells)) (h : pX2_keepTrial t_racks t_sizes t_trial_n t_trial_cells K) : W p l e R s m args below meth c s.heap [] 0 0 Q (entryFrame m ([.ref h_t] : List Value).toArray 5) := by
  have inX2 : ∀ w ∈ u_ws RX2 TX2 3, w ∈ wsX2_keepTrial := by decide +kernel
  have inX7 : ∀ w ∈ u_ws RX7 TX7 2, w ∈ wsX2_keepTrial := by decide +kernel
  have hf13 := hts (.fieldLink RX2 13 "RackBench$Lister" "racks" "[[I") (by decide +kernel)
  have hf16 := hts (.fieldLink RX2 16 "RackBench$Lister" "sizes" "[I") (by decide +kernel)
  have hf25 := hts (.fieldLink RX2 25 "RackBench$Lister" "trial" "LRackBench$Table;") (by decide +kernel)
  have hl := lv_entry ([.ref h_t]) (n := 5) (Nat.le_of_ble_eq_true rfl)
  rw [lg_entry_eq]
  generalize (lg_sl ([.ref h_t]) ++ List.replicate (5 - (lg_sl ([.ref h_t])).length) Slot.unset).toArray = ls at hl ⊢
  have hl : lv_has ls 5 [(0, .ref h_t)] := hl
  generalize hH0 : s.heap = H at hP ⊢
  have hS : va_S A s.heap H [] := by rw [← hH0]; exact va_S.rf
  clear hH0
  generalize ([] : List Loc) = locs at hS ⊢
  refine lv_aload_n hx hb dX2_keepTrial_0 rfl (lv_at hl 0 rfl) ?_
  refine va_get (D := G) (ci := 2) (v := .ref (B_t 2)) (C := RX2) (T := TX2) (N := 3) hx hb hts inX2 hown hK hP 0 rfl rfl 2 (by decide) hf25 (fun _ h9 => h9) rfl dX2_keepTrial_1 ?_
  refine va_getN (D := G) (ci := 6) (v := .int t_trial_n) (C := RX7) (T := TX7) (N := 2) hx hb hts inX7 hown hK hP 8 rfl rfl 1 (by decide) (hE.nest args 7 _ rfl) (fun _ h9 => h9) rfl dX2_keepTrial_4 ?_
  refine lv_istore_n (lv' := [(1, .int t_trial_n), (0, .ref h_t)]) hx hb dX2_keepTrial_7 rfl hl (by decide) rfl (fun ls hl => ?_)
  refine lv_iconst (v := 0) hx hb dX2_keepTrial_8 (by decide) ?_
  refine lv_istore_n (lv' := [(2, .int (0 : Int32)), (1, .int t_trial_n), (0, .ref h_t)]) hx hb dX2_keepTrial_9 rfl hl (by decide) rfl (fun ls hl => ?_)
  refine lv_iconst (v := 0) hx hb dX2_keepTrial_10 (by decide) ?_
  refine lv_istore_n (lv' := [(3, .int (0 : Int32)), (2, .int (0 : Int32)), (1, .int t_trial_n), (0, .ref h_t)]) hx hb dX2_keepTrial_11 rfl hl (by decide) rfl (fun ls hl => ?_)
  obtain ⟨I12, m12, hI12, hB12⟩ := h
  have L12 : ∀ (x1 : Int32) (t_racks : Nat → Nat → Int32) (t_sizes : Nat → Int32) (I12 : Int32 → Int32 → Prop) (m12 : Int32 → Int32 → Nat), (∀ (x2 : Int32) (x3 : Int32), I12 x2 x3 → pX2_keepTrial_12 t_trial_n t_trial_cells K x1 t_racks t_sizes x2 x3 (fun x2' x3' => I12 x2' x3' ∧ m12 x2' x3' < m12 x2 x3)) → ∀ (n : Nat) (x2 : Int32) (x3 : Int32) (H : Heap) (locs : List Loc) (ls : Array Slot), I12 x2 x3 → m12 x2 x3 < n → va_P G vwCl (w_X2_keepTrial Y h_t B_t B_t_racks B_t_trial t_racks t_sizes t_trial_n t_trial_cells) H → va_D A (w_X2_keepTrial Y h_t B_t B_t_racks B_t_trial t_racks t_sizes t_trial_n t_trial_cells) → va_S A s.heap H locs → lv_has ls 5 [(0, .ref h_t), (1, .int x1), (2, .int x2), (3, .int x3)] → W p l e R s m args below meth c H locs 0 0 Q (F0 m 12 ls []) := by
    intro x1 t_racks t_sizes I12 m12 hB12 n
    induction n with
    | zero => intro x2 x3 H locs ls _ hm; exact absurd hm (Nat.not_lt_zero _)
    | succ n ih =>
      intro x2 x3 H locs ls hI hm hP hD hS hl
      obtain ⟨R12, h, rec12⟩ : ∃ R12 : Int32 → Int32 → Prop, pX2_keepTrial_12 t_trial_n t_trial_cells K x1 t_racks t_sizes x2 x3 R12 ∧ ∀ (x2 : Int32) (x3 : Int32) (H : Heap) (locs : List Loc) (ls : Array Slot), R12 x2 x3 → va_P G vwCl (w_X2_keepTrial Y h_t B_t B_t_racks B_t_trial t_racks t_sizes t_trial_n t_trial_cells) H → va_D A (w_X2_keepTrial Y h_t B_t B_t_racks B_t_trial t_racks t_sizes t_trial_n t_trial_cells) → va_S A s.heap H locs → lv_has ls 5 [(0, .ref h_t), (1, .int x1), (2, .int x2), (3, .int x3)] → W p l e R s m args below meth c H locs 0 0 Q (F0 m 12 ls []) := ⟨_, hB12 x2 x3 hI, fun x2 x3 H locs ls hh hP hD hS hl => ih x2 x3 H locs ls hh.1 (Nat.lt_of_lt_of_le hh.2 (Nat.le_of_lt_succ hm)) hP hD hS hl⟩
      refine lv_iload_n hx hb dX2_keepTrial_12 rfl (lv_at hl 3 rfl) ?_
      refine lv_iload_n hx hb dX2_keepTrial_13 rfl (lv_at hl 1 rfl) ?_
      obtain ⟨ht, hf⟩ := h
      refine lv_icmp_ge (tgt := 60) hx hb dX2_keepTrial_14 (by decide) (fun c9 => ?_) (fun c9 => ?_)
      · have h := ht c9
        refine lv_aload_n hx hb dX2_keepTrial_60 rfl (lv_at hl 0 rfl) ?_
        refine va_get (D := G) (ci := 2) (v := .ref (B_t 1)) (C := RX2) (T := TX2) (N := 3) hx hb hts inX2 hown hK hP 0 rfl rfl 1 (by decide) hf16 (fun _ h9 => h9) rfl dX2_keepTrial_61 ?_
        refine lv_iload_n hx hb dX2_keepTrial_64 rfl (lv_at hl 1 rfl) ?_
        obtain ⟨hin, h⟩ := h
        refine va_iald hx hb hK hP 7 0 rfl rfl hin dX2_keepTrial_65 ?_
        refine lv_bipush (v := 19) hx hb dX2_keepTrial_66 (by decide) ?_
        obtain ⟨ht, hf⟩ := h
        refine lv_icmp_ge (tgt := 95) hx hb dX2_keepTrial_68 (by decide) (fun c9 => ?_) (fun c9 => ?_)
        · have h := ht c9
          exact hret t_racks t_sizes H locs ls _ hP hD hS h dX2_keepTrial_95
        · have h := hf c9
          refine lv_aload_n hx hb dX2_keepTrial_71 rfl (lv_at hl 0 rfl) ?_
          refine va_get (D := G) (ci := 2) (v := .ref (B_t 0)) (C := RX2) (T := TX2) (N := 3) hx hb hts inX2 hown hK hP 0 rfl rfl 0 (by decide) hf13 (fun _ h9 => h9) rfl dX2_keepTrial_72 ?_
          refine lv_iload_n hx hb dX2_keepTrial_75 rfl (lv_at hl 1 rfl) ?_
          obtain ⟨hin, h⟩ := h
          refine va_aldqA hx hb hK hP 1 3 rfl rfl hin dX2_keepTrial_76 ?_
          obtain ⟨j9, hj9, e9⟩ := vp_in_of hin (by decide)
          have e8 : Int32.toNatClampNeg x1 = j9 := by rw [e9]; exact nI_clamp (by omega)
          simp only [e8]
          have e70 : t_racks (Int32.toNatClampNeg x1) = t_racks j9 := by rw [e8]
          have e60 : ∀ v9, va_up t_racks (Int32.toNatClampNeg x1) v9 = va_up t_racks j9 v9 := by intro v9; rw [e8]
          try simp only [e70, e60] at h
          clear e70 e60
          clear hin e9
          rcases (show j9 = 0 ∨ j9 = 1 ∨ j9 = 2 ∨ j9 = 3 ∨ j9 = 4 by omega) with rfl | rfl | rfl | rfl | rfl
          · clear hj9
            refine W.eq (g2 := F0 m 77 ls [.ref (B_t_racks 0)]) rfl ?_
            refine lv_aload_n hx hb dX2_keepTrial_77 rfl (lv_at hl 0 rfl) ?_
            refine va_get (D := G) (ci := 2) (v := .ref (B_t 1)) (C := RX2) (T := TX2) (N := 3) hx hb hts inX2 hown hK hP 0 rfl rfl 1 (by decide) hf16 (fun _ h9 => h9) rfl dX2_keepTrial_78 ?_
            refine lv_iload_n hx hb dX2_keepTrial_81 rfl (lv_at hl 1 rfl) ?_
            obtain ⟨hin, h⟩ := h
            refine va_iald hx hb hK hP 7 0 rfl rfl hin dX2_keepTrial_82 ?_
            refine lv_iload_n hx hb dX2_keepTrial_83 rfl (lv_at hl 2 rfl) ?_
            obtain ⟨hin, h⟩ := h
            refine va_iast hx hb hK hP hD hS 2 0 rfl rfl hin dX2_keepTrial_84 (fun H locs hP hD hS => ?_)
            have hP : va_P G vwCl (w_X2_keepTrial Y h_t B_t B_t_racks B_t_trial (va_up t_racks 0 (upd (t_racks 0) (Int32.toNatClampNeg (t_sizes (Int32.toNatClampNeg x1))) x2)) t_sizes t_trial_n t_trial_cells) H := hP
            have hD : va_D A (w_X2_keepTrial Y h_t B_t B_t_racks B_t_trial (va_up t_racks 0 (upd (t_racks 0) (Int32.toNatClampNeg (t_sizes (Int32.toNatClampNeg x1))) x2)) t_sizes t_trial_n t_trial_cells) := hD
            refine lv_aload_n hx hb dX2_keepTrial_85 rfl (lv_at hl 0 rfl) ?_
            refine va_get (D := G) (ci := 2) (v := .ref (B_t 1)) (C := RX2) (T := TX2) (N := 3) hx hb hts inX2 hown hK hP 0 rfl rfl 1 (by decide) hf16 (fun _ h9 => h9) rfl dX2_keepTrial_86 ?_
            refine lv_iload_n hx hb dX2_keepTrial_89 rfl (lv_at hl 1 rfl) ?_
            refine lv_dup2_11 hx hb dX2_keepTrial_90 rfl rfl ?_
            obtain ⟨hin, h⟩ := h
            refine va_iald hx hb hK hP 7 0 rfl rfl hin dX2_keepTrial_91 ?_
            refine lv_iconst (v := 1) hx hb dX2_keepTrial_92 (by decide) ?_
            refine lv_iadd hx hb dX2_keepTrial_93 ?_
            obtain ⟨hin, h⟩ := h
            refine va_iast hx hb hK hP hD hS 7 0 rfl rfl hin dX2_keepTrial_94 (fun H locs hP hD hS => ?_)
            have hP : va_P G vwCl (w_X2_keepTrial Y h_t B_t B_t_racks B_t_trial (va_up t_racks 0 (upd (t_racks 0) (Int32.toNatClampNeg (t_sizes (Int32.toNatClampNeg x1))) x2)) (upd t_sizes (Int32.toNatClampNeg x1) ((t_sizes (Int32.toNatClampNeg x1)) + (1 : Int32))) t_trial_n t_trial_cells) H := hP
            have hD : va_D A (w_X2_keepTrial Y h_t B_t B_t_racks B_t_trial (va_up t_racks 0 (upd (t_racks 0) (Int32.toNatClampNeg (t_sizes (Int32.toNatClampNeg x1))) x2)) (upd t_sizes (Int32.toNatClampNeg x1) ((t_sizes (Int32.toNatClampNeg x1)) + (1 : Int32))) t_trial_n t_trial_cells) := hD
            exact hret (va_up t_racks 0 (upd (t_racks 0) (Int32.toNatClampNeg (t_sizes (Int32.toNatClampNeg x1))) x2)) (upd t_sizes (Int32.toNatClampNeg x1) ((t_sizes (Int32.toNatClampNeg x1)) + (1 : Int32))) H locs ls _ hP hD hS h dX2_keepTrial_95
          · clear hj9
            refine W.eq (g2 := F0 m 77 ls [.ref (B_t_racks 1)]) rfl ?_
            refine lv_aload_n hx hb dX2_keepTrial_77 rfl (lv_at hl 0 rfl) ?_
            refine va_get (D := G) (ci := 2) (v := .ref (B_t 1)) (C := RX2) (T := TX2) (N := 3) hx hb hts inX2 hown hK hP 0 rfl rfl 1 (by decide) hf16 (fun _ h9 => h9) rfl dX2_keepTrial_78 ?_
            refine lv_iload_n hx hb dX2_keepTrial_81 rfl (lv_at hl 1 rfl) ?_
            obtain ⟨hin, h⟩ := h
            refine va_iald hx hb hK hP 7 0 rfl rfl hin dX2_keepTrial_82 ?_
            refine lv_iload_n hx hb dX2_keepTrial_83 rfl (lv_at hl 2 rfl) ?_
            obtain ⟨hin, h⟩ := h
            refine va_iast hx hb hK hP hD hS 3 0 rfl rfl hin dX2_keepTrial_84 (fun H locs hP hD hS => ?_)
            have hP : va_P G vwCl (w_X2_keepTrial Y h_t B_t B_t_racks B_t_trial (va_up t_racks 1 (upd (t_racks 1) (Int32.toNatClampNeg (t_sizes (Int32.toNatClampNeg x1))) x2)) t_sizes t_trial_n t_trial_cells) H := hP
            have hD : va_D A (w_X2_keepTrial Y h_t B_t B_t_racks B_t_trial (va_up t_racks 1 (upd (t_racks 1) (Int32.toNatClampNeg (t_sizes (Int32.toNatClampNeg x1))) x2)) t_sizes t_trial_n t_trial_cells) := hD
            refine lv_aload_n hx hb dX2_keepTrial_85 rfl (lv_at hl 0 rfl) ?_
            refine va_get (D := G) (ci := 2) (v := .ref (B_t 1)) (C := RX2) (T := TX2) (N := 3) hx hb hts inX2 hown hK hP 0 rfl rfl 1 (by decide) hf16 (fun _ h9 => h9) rfl dX2_keepTrial_86 ?_
            refine lv_iload_n hx hb dX2_keepTrial_89 rfl (lv_at hl 1 rfl) ?_
            refine lv_dup2_11 hx hb dX2_keepTrial_90 rfl rfl ?_
            obtain ⟨hin, h⟩ := h
            refine va_iald hx hb hK hP 7 0 rfl rfl hin dX2_keepTrial_91 ?_
            refine lv_iconst (v := 1) hx hb dX2_keepTrial_92 (by decide) ?_
            refine lv_iadd hx hb dX2_keepTrial_93 ?_
            obtain ⟨hin, h⟩ := h
            refine va_iast hx hb hK hP hD hS 7 0 rfl rfl hin dX2_keepTrial_94 (fun H locs hP hD hS => ?_)
            have hP : va_P G vwCl (w_X2_keepTrial Y h_t B_t B_t_racks B_t_trial (va_up t_racks 1 (upd (t_racks 1) (Int32.toNatClampNeg (t_sizes (Int32.toNatClampNeg x1))) x2)) (upd t_sizes (Int32.toNatClampNeg x1) ((t_sizes (Int32.toNatClampNeg x1)) + (1 : Int32))) t_trial_n t_trial_cells) H := hP
            have hD : va_D A (w_X2_keepTrial Y h_t B_t B_t_racks B_t_trial (va_up t_racks 1 (upd (t_racks 1) (Int32.toNatClampNeg (t_sizes (Int32.toNatClampNeg x1))) x2)) (upd t_sizes (Int32.toNatClampNeg x1) ((t_sizes (Int32.toNatClampNeg x1)) + (1 : Int32))) t_trial_n t_trial_cells) := hD
            exact hret (va_up t_racks 1 (upd (t_racks 1) (Int32.toNatClampNeg (t_sizes (Int32.toNatClampNeg x1))) x2)) (upd t_sizes (Int32.toNatClampNeg x1) ((t_sizes (Int32.toNatClampNeg x1)) + (1 : Int32))) H locs ls _ hP hD hS h dX2_keepTrial_95
          · clear hj9
            refine W.eq (g2 := F0 m 77 ls [.ref (B_t_racks 2)]) rfl ?_
            refine lv_aload_n hx hb dX2_keepTrial_77 rfl (lv_at hl 0 rfl) ?_
            refine va_get (D := G) (ci := 2) (v := .ref (B_t 1)) (C := RX2) (T := TX2) (N := 3) hx hb hts inX2 hown hK hP 0 rfl rfl 1 (by decide) hf16 (fun _ h9 => h9) rfl dX2_keepTrial_78 ?_
            refine lv_iload_n hx hb dX2_keepTrial_81 rfl (lv_at hl 1 rfl) ?_
            obtain ⟨hin, h⟩ := h
            refine va_iald hx hb hK hP 7 0 rfl rfl hin dX2_keepTrial_82 ?_
            refine lv_iload_n hx hb dX2_keepTrial_83 rfl (lv_at hl 2 rfl) ?_
            obtain ⟨hin, h⟩ := h
            refine va_iast hx hb hK hP hD hS 4 0 rfl rfl hin dX2_keepTrial_84 (fun H locs hP hD hS => ?_)
            have hP : va_P G vwCl (w_X2_keepTrial Y h_t B_t B_t_racks B_t_trial (va_up t_racks 2 (upd (t_racks 2) (Int32.toNatClampNeg (t_sizes (Int32.toNatClampNeg x1))) x2)) t_sizes t_trial_n t_trial_cells) H := hP
            have hD : va_D A (w_X2_keepTrial Y h_t B_t B_t_racks B_t_trial (va_up t_racks 2 (upd (t_racks 2) (Int32.toNatClampNeg (t_sizes (Int32.toNatClampNeg x1))) x2)) t_sizes t_trial_n t_trial_cells) := hD
            refine lv_aload_n hx hb dX2_keepTrial_85 rfl (lv_at hl 0 rfl) ?_
            refine va_get (D := G) (ci := 2) (v := .ref (B_t 1)) (C := RX2) (T := TX2) (N := 3) hx hb hts inX2 hown hK hP 0 rfl rfl 1 (by decide) hf16 (fun _ h9 => h9) rfl dX2_keepTrial_86 ?_
            refine lv_iload_n hx hb dX2_keepTrial_89 rfl (lv_at hl 1 rfl) ?_
            refine lv_dup2_11 hx hb dX2_keepTrial_90 rfl rfl ?_
            obtain ⟨hin, h⟩ := h
            refine va_iald hx hb hK hP 7 0 rfl rfl hin dX2_keepTrial_91 ?_
            refine lv_iconst (v := 1) hx hb dX2_keepTrial_92 (by decide) ?_
            refine lv_iadd hx hb dX2_keepTrial_93 ?_
            obtain ⟨hin, h⟩ := h
            refine va_iast hx hb hK hP hD hS 7 0 rfl rfl hin dX2_keepTrial_94 (fun H locs hP hD hS => ?_)
            have hP : va_P G vwCl (w_X2_keepTrial Y h_t B_t B_t_racks B_t_trial (va_up t_racks 2 (upd (t_racks 2) (Int32.toNatClampNeg (t_sizes (Int32.toNatClampNeg x1))) x2)) (upd t_sizes (Int32.toNatClampNeg x1) ((t_sizes (Int32.toNatClampNeg x1)) + (1 : Int32))) t_trial_n t_trial_cells) H := hP
            have hD : va_D A (w_X2_keepTrial Y h_t B_t B_t_racks B_t_trial (va_up t_racks 2 (upd (t_racks 2) (Int32.toNatClampNeg (t_sizes (Int32.toNatClampNeg x1))) x2)) (upd t_sizes (Int32.toNatClampNeg x1) ((t_sizes (Int32.toNatClampNeg x1)) + (1 : Int32))) t_trial_n t_trial_cells) := hD
            exact hret (va_up t_racks 2 (upd (t_racks 2) (Int32.toNatClampNeg (t_sizes (Int32.toNatClampNeg x1))) x2)) (upd t_sizes (Int32.toNatClampNeg x1) ((t_sizes (Int32.toNatClampNeg x1)) + (1 : Int32))) H locs ls _ hP hD hS h dX2_keepTrial_95
          · clear hj9
            refine W.eq (g2 := F0 m 77 ls [.ref (B_t_racks 3)]) rfl ?_
            refine lv_aload_n hx hb dX2_keepTrial_77 rfl (lv_at hl 0 rfl) ?_
            refine va_get (D := G) (ci := 2) (v := .ref (B_t 1)) (C := RX2) (T := TX2) (N := 3) hx hb hts inX2 hown hK hP 0 rfl rfl 1 (by decide) hf16 (fun _ h9 => h9) rfl dX2_keepTrial_78 ?_
            refine lv_iload_n hx hb dX2_keepTrial_81 rfl (lv_at hl 1 rfl) ?_
            obtain ⟨hin, h⟩ := h
            refine va_iald hx hb hK hP 7 0 rfl rfl hin dX2_keepTrial_82 ?_
            refine lv_iload_n hx hb dX2_keepTrial_83 rfl (lv_at hl 2 rfl) ?_
            obtain ⟨hin, h⟩ := h
            refine va_iast hx hb hK hP hD hS 5 0 rfl rfl hin dX2_keepTrial_84 (fun H locs hP hD hS => ?_)
            have hP : va_P G vwCl (w_X2_keepTrial Y h_t B_t B_t_racks B_t_trial (va_up t_racks 3 (upd (t_racks 3) (Int32.toNatClampNeg (t_sizes (Int32.toNatClampNeg x1))) x2)) t_sizes t_trial_n t_trial_cells) H := hP
            have hD : va_D A (w_X2_keepTrial Y h_t B_t B_t_racks B_t_trial (va_up t_racks 3 (upd (t_racks 3) (Int32.toNatClampNeg (t_sizes (Int32.toNatClampNeg x1))) x2)) t_sizes t_trial_n t_trial_cells) := hD
            refine lv_aload_n hx hb dX2_keepTrial_85 rfl (lv_at hl 0 rfl) ?_
            refine va_get (D := G) (ci := 2) (v := .ref (B_t 1)) (C := RX2) (T := TX2) (N := 3) hx hb hts inX2 hown hK hP 0 rfl rfl 1 (by decide) hf16 (fun _ h9 => h9) rfl dX2_keepTrial_86 ?_
            refine lv_iload_n hx hb dX2_keepTrial_89 rfl (lv_at hl 1 rfl) ?_
            refine lv_dup2_11 hx hb dX2_keepTrial_90 rfl rfl ?_
            obtain ⟨hin, h⟩ := h
            refine va_iald hx hb hK hP 7 0 rfl rfl hin dX2_keepTrial_91 ?_
            refine lv_iconst (v := 1) hx hb dX2_keepTrial_92 (by decide) ?_
            refine lv_iadd hx hb dX2_keepTrial_93 ?_
            obtain ⟨hin, h⟩ := h
            refine va_iast hx hb hK hP hD hS 7 0 rfl rfl hin dX2_keepTrial_94 (fun H locs hP hD hS => ?_)
            have hP : va_P G vwCl (w_X2_keepTrial Y h_t B_t B_t_racks B_t_trial (va_up t_racks 3 (upd (t_racks 3) (Int32.toNatClampNeg (t_sizes (Int32.toNatClampNeg x1))) x2)) (upd t_sizes (Int32.toNatClampNeg x1) ((t_sizes (Int32.toNatClampNeg x1)) + (1 : Int32))) t_trial_n t_trial_cells) H := hP
            have hD : va_D A (w_X2_keepTrial Y h_t B_t B_t_racks B_t_trial (va_up t_racks 3 (upd (t_racks 3) (Int32.toNatClampNeg (t_sizes (Int32.toNatClampNeg x1))) x2)) (upd t_sizes (Int32.toNatClampNeg x1) ((t_sizes (Int32.toNatClampNeg x1)) + (1 : Int32))) t_trial_n t_trial_cells) := hD
            exact hret (va_up t_racks 3 (upd (t_racks 3) (Int32.toNatClampNeg (t_sizes (Int32.toNatClampNeg x1))) x2)) (upd t_sizes (Int32.toNatClampNeg x1) ((t_sizes (Int32.toNatClampNeg x1)) + (1 : Int32))) H locs ls _ hP hD hS h dX2_keepTrial_95
          · clear hj9
            refine W.eq (g2 := F0 m 77 ls [.ref (B_t_racks 4)]) rfl ?_
            refine lv_aload_n hx hb dX2_keepTrial_77 rfl (lv_at hl 0 rfl) ?_
            refine va_get (D := G) (ci := 2) (v := .ref (B_t 1)) (C := RX2) (T := TX2) (N := 3) hx hb hts inX2 hown hK hP 0 rfl rfl 1 (by decide) hf16 (fun _ h9 => h9) rfl dX2_keepTrial_78 ?_
            refine lv_iload_n hx hb dX2_keepTrial_81 rfl (lv_at hl 1 rfl) ?_
            obtain ⟨hin, h⟩ := h
            refine va_iald hx hb hK hP 7 0 rfl rfl hin dX2_keepTrial_82 ?_
            refine lv_iload_n hx hb dX2_keepTrial_83 rfl (lv_at hl 2 rfl) ?_
            obtain ⟨hin, h⟩ := h
            refine va_iast hx hb hK hP hD hS 6 0 rfl rfl hin dX2_keepTrial_84 (fun H locs hP hD hS => ?_)
            have hP : va_P G vwCl (w_X2_keepTrial Y h_t B_t B_t_racks B_t_trial (va_up t_racks 4 (upd (t_racks 4) (Int32.toNatClampNeg (t_sizes (Int32.toNatClampNeg x1))) x2)) t_sizes t_trial_n t_trial_cells) H := hP
            have hD : va_D A (w_X2_keepTrial Y h_t B_t B_t_racks B_t_trial (va_up t_racks 4 (upd (t_racks 4) (Int32.toNatClampNeg (t_sizes (Int32.toNatClampNeg x1))) x2)) t_sizes t_trial_n t_trial_cells) := hD
            refine lv_aload_n hx hb dX2_keepTrial_85 rfl (lv_at hl 0 rfl) ?_
            refine va_get (D := G) (ci := 2) (v := .ref (B_t 1)) (C := RX2) (T := TX2) (N := 3) hx hb hts inX2 hown hK hP 0 rfl rfl 1 (by decide) hf16 (fun _ h9 => h9) rfl dX2_keepTrial_86 ?_
            refine lv_iload_n hx hb dX2_keepTrial_89 rfl (lv_at hl 1 rfl) ?_
            refine lv_dup2_11 hx hb dX2_keepTrial_90 rfl rfl ?_
            obtain ⟨hin, h⟩ := h
            refine va_iald hx hb hK hP 7 0 rfl rfl hin dX2_keepTrial_91 ?_
            refine lv_iconst (v := 1) hx hb dX2_keepTrial_92 (by decide) ?_
            refine lv_iadd hx hb dX2_keepTrial_93 ?_
            obtain ⟨hin, h⟩ := h
            refine va_iast hx hb hK hP hD hS 7 0 rfl rfl hin dX2_keepTrial_94 (fun H locs hP hD hS => ?_)
            have hP : va_P G vwCl (w_X2_keepTrial Y h_t B_t B_t_racks B_t_trial (va_up t_racks 4 (upd (t_racks 4) (Int32.toNatClampNeg (t_sizes (Int32.toNatClampNeg x1))) x2)) (upd t_sizes (Int32.toNatClampNeg x1) ((t_sizes (Int32.toNatClampNeg x1)) + (1 : Int32))) t_trial_n t_trial_cells) H := hP
            have hD : va_D A (w_X2_keepTrial Y h_t B_t B_t_racks B_t_trial (va_up t_racks 4 (upd (t_racks 4) (Int32.toNatClampNeg (t_sizes (Int32.toNatClampNeg x1))) x2)) (upd t_sizes (Int32.toNatClampNeg x1) ((t_sizes (Int32.toNatClampNeg x1)) + (1 : Int32))) t_trial_n t_trial_cells) := hD
            exact hret (va_up t_racks 4 (upd (t_racks 4) (Int32.toNatClampNeg (t_sizes (Int32.toNatClampNeg x1))) x2)) (upd t_sizes (Int32.toNatClampNeg x1) ((t_sizes (Int32.toNatClampNeg x1)) + (1 : Int32))) H locs ls _ hP hD hS h dX2_keepTrial_95
      · have h := hf c9
        refine lv_iconst (v := 0) hx hb dX2_keepTrial_17 (by decide) ?_
        refine lv_istore (lv' := [(4, .int (0 : Int32)), (0, .ref h_t), (1, .int x1), (2, .int x2), (3, .int x3)]) hx hb dX2_keepTrial_18 hl (by decide) rfl (fun ls hl => ?_)
        obtain ⟨I20, m20, hI20, hB20⟩ := h
        have L20 : ∀ (x3 : Int32) (I20 : Int32 → Int32 → Prop) (m20 : Int32 → Int32 → Nat), (∀ (x2 : Int32) (x4 : Int32), I20 x2 x4 → pX2_keepTrial_20 t_trial_n t_trial_cells R12 K x1 t_racks t_sizes x3 x2 x4 (fun x2' x4' => I20 x2' x4' ∧ m20 x2' x4' < m20 x2 x4)) → ∀ (n : Nat) (x2 : Int32) (x4 : Int32) (H : Heap) (locs : List Loc) (ls : Array Slot), I20 x2 x4 → m20 x2 x4 < n → va_P G vwCl (w_X2_keepTrial Y h_t B_t B_t_racks B_t_trial t_racks t_sizes t_trial_n t_trial_cells) H → va_D A (w_X2_keepTrial Y h_t B_t B_t_racks B_t_trial t_racks t_sizes t_trial_n t_trial_cells) → va_S A s.heap H locs → lv_has ls 5 [(0, .ref h_t), (1, .int x1), (2, .int x2), (3, .int x3), (4, .int x4)] → W p l e R s m args below meth c H locs 0 0 Q (F0 m 20 ls []) := by
          intro x3 I20 m20 hB20 n
          induction n with
          | zero => intro x2 x4 H locs ls _ hm; exact absurd hm (Nat.not_lt_zero _)
          | succ n ih =>
            intro x2 x4 H locs ls hI hm hP hD hS hl
            obtain ⟨R20, h, rec20⟩ : ∃ R20 : Int32 → Int32 → Prop, pX2_keepTrial_20 t_trial_n t_trial_cells R12 K x1 t_racks t_sizes x3 x2 x4 R20 ∧ ∀ (x2 : Int32) (x4 : Int32) (H : Heap) (locs : List Loc) (ls : Array Slot), R20 x2 x4 → va_P G vwCl (w_X2_keepTrial Y h_t B_t B_t_racks B_t_trial t_racks t_sizes t_trial_n t_trial_cells) H → va_D A (w_X2_keepTrial Y h_t B_t B_t_racks B_t_trial t_racks t_sizes t_trial_n t_trial_cells) → va_S A s.heap H locs → lv_has ls 5 [(0, .ref h_t), (1, .int x1), (2, .int x2), (3, .int x3), (4, .int x4)] → W p l e R s m args below meth c H locs 0 0 Q (F0 m 20 ls []) := ⟨_, hB20 x2 x4 hI, fun x2 x4 H locs ls hh hP hD hS hl => ih x2 x4 H locs ls hh.1 (Nat.lt_of_lt_of_le hh.2 (Nat.le_of_lt_succ hm)) hP hD hS hl⟩
            refine lv_iload hx hb dX2_keepTrial_20 (lv_at hl 4 rfl) ?_
            refine lv_iload_n hx hb dX2_keepTrial_22 rfl (lv_at hl 1 rfl) ?_
            obtain ⟨ht, hf⟩ := h
            refine lv_icmp_ge (tgt := 54) hx hb dX2_keepTrial_23 (by decide) (fun c9 => ?_) (fun c9 => ?_)
            · have h := ht c9
              refine lv_iinc (v := (x3 + 1)) (lv' := [(3, .int (x3 + 1)), (0, .ref h_t), (1, .int x1), (2, .int x2), (4, .int x4)]) hx hb dX2_keepTrial_54 hl (k := 3) rfl rfl (by decide) rfl (fun ls hl => ?_)
              refine lv_goto (tgt := 12) hx hb dX2_keepTrial_57 (by decide) ?_
              exact rec12 x2 (x3 + 1) H locs ls h hP hD hS (lv_sub hl [1, 2, 3, 0] rfl)
            · have h := hf c9
              refine lv_iload_n hx hb dX2_keepTrial_26 rfl (lv_at hl 2 rfl) ?_
              refine lv_aload_n hx hb dX2_keepTrial_27 rfl (lv_at hl 0 rfl) ?_
              refine va_get (D := G) (ci := 2) (v := .ref (B_t 2)) (C := RX2) (T := TX2) (N := 3) hx hb hts inX2 hown hK hP 0 rfl rfl 2 (by decide) hf25 (fun _ h9 => h9) rfl dX2_keepTrial_28 ?_
              refine lv_iload_n hx hb dX2_keepTrial_31 rfl (lv_at hl 3 rfl) ?_
              refine lv_iload hx hb dX2_keepTrial_32 (lv_at hl 4 rfl) ?_
              refine mc_iV ⟨hx, hb, hml, hown, hts⟩ hK hE hA hP hD hS (c_X7_turned l G Y tF H.size (B_t 2) B_t_trial t_trial_n t_trial_cells x3 x4 h) (cwV 2 hts gX2_keepTrial_X7_turned rfl rfl rfl (by decide +kernel) ⟨Nat.le_trans (by decide) hRf, Nat.le_trans (by decide) hRl⟩) (fun u => (w_X2_keepTrial Y h_t B_t B_t_racks B_t_trial t_racks t_sizes t_trial_n t_trial_cells)) [8, 9] [0, 1, 2, 3, 4, 5, 6, 7] [0, 1, 2, 3, 4, 5, 6, 7, 8, 9] rfl rfl rfl rfl (by decide) (fun _ => rfl) rfl 8 6 rfl rfl rfl rfl hl.1 rfl (Nat.le_of_ble_eq_true rfl) dX2_keepTrial_34 (fun r34 u H locs h hP hD hS => ?_)
              try dsimp only at h
              have hP : va_P G vwCl (w_X2_keepTrial Y h_t B_t B_t_racks B_t_trial t_racks t_sizes t_trial_n t_trial_cells) H := hP
              have hD : va_D A (w_X2_keepTrial Y h_t B_t B_t_racks B_t_trial t_racks t_sizes t_trial_n t_trial_cells) := hD
              refine lv_iconst (v := 2) hx hb dX2_keepTrial_37 (by decide) ?_
              refine lv_iload_n hx hb dX2_keepTrial_38 rfl (lv_at hl 3 rfl) ?_
              refine lv_iload_n hx hb dX2_keepTrial_39 rfl (lv_at hl 1 rfl) ?_
              refine lv_imul hx hb dX2_keepTrial_40 ?_
              refine lv_iload hx hb dX2_keepTrial_41 (lv_at hl 4 rfl) ?_
              refine lv_iadd hx hb dX2_keepTrial_43 ?_
              refine lv_imul hx hb dX2_keepTrial_44 ?_
              refine lv_ishl hx hb dX2_keepTrial_45 ?_
              refine lv_ior hx hb dX2_keepTrial_46 ?_
              refine lv_istore_n (lv' := [(2, .int (x2 ||| (r34 <<< (((2 : Int32) * ((x3 * x1) + x4)) &&& 31)))), (0, .ref h_t), (1, .int x1), (3, .int x3), (4, .int x4)]) hx hb dX2_keepTrial_47 rfl hl (by decide) rfl (fun ls hl => ?_)
              refine lv_iinc (v := (x4 + 1)) (lv' := [(4, .int (x4 + 1)), (2, .int (x2 ||| (r34 <<< (((2 : Int32) * ((x3 * x1) + x4)) &&& 31)))), (0, .ref h_t), (1, .int x1), (3, .int x3)]) hx hb dX2_keepTrial_48 hl (k := 4) rfl rfl (by decide) rfl (fun ls hl => ?_)
              refine lv_goto (tgt := 20) hx hb dX2_keepTrial_51 (by decide) ?_
              exact rec20 (x2 ||| (r34 <<< (((2 : Int32) * ((x3 * x1) + x4)) &&& 31))) (x4 + 1) H locs ls h hP hD hS (lv_sub hl [2, 3, 1, 4, 0] rfl)
        exact L20 x3 I20 m20 hB20 _ x2 (0 : Int32) H locs ls hI20 (Nat.lt_succ_self _) hP hD hS (lv_sub hl [1, 2, 3, 4, 0] rfl)
  exact L12 t_trial_n t_racks t_sizes I12 m12 hB12 _ (0 : Int32) (0 : Int32) H locs ls hI12 (Nat.lt_succ_self _) hP hD hS (lv_sub hl [3, 2, 1, 0] rfl)

set_option maxHeartbeats 4000000 in
set_option maxRecDepth 100000 in
theorem c_X2_keepTrial (l : Launch) (G : va_G) (Y : Nat → ClassId) (tF sz : Nat) (h_t : Nat) (B_t : Nat → Nat) (B_t_racks : Nat → Nat) (B_t_trial : Nat → Nat) (t_racks : Nat → Nat → Int32) (t_sizes : Nat → Int32) (t_trial_n : Int32) (t_trial_cells : Nat → Int32) {K : (Nat → Nat → Int32) → (Nat → Int32) → Prop} (h : pX2_keepTrial t_racks t_sizes t_trial_n t_trial_cells K) : Met l yX2_keepTrial wsX2_keepTrial ({ frames := 1, cells := 0, slots := 0, locals := 22 }) (PcM G Y tF sz (w_X2_keepTrial Y h_t B_t B_t_racks B_t_trial t_racks t_sizes t_trial_n t_trial_cells) [.ref h_t]) (va_Qv (fun u : (Nat → Nat → Int32) × (Nat → Int32) => K u.1 u.2) (fun u t => BM G Y (va_A (w_X2_keepTrial Y h_t B_t B_t_racks B_t_trial t_racks t_sizes t_trial_n t_trial_cells) sz) (w_X2_keepTrial Y h_t B_t B_t_racks B_t_trial u.1 u.2 t_trial_n t_trial_cells) t) (va_A (w_X2_keepTrial Y h_t B_t B_t_racks B_t_trial t_racks t_sizes t_trial_n t_trial_cells) sz)) 0 0 (va_A (w_X2_keepTrial Y h_t B_t B_t_racks B_t_trial t_racks t_sizes t_trial_n t_trial_cells) sz) := by
  refine Met.ofW (cc := cX2_keepTrial) (maxL := 5) (ret := none) (by decide +kernel) rfl ?_
  intro p e s m args below meth c s₁ B hml hv
  obtain ⟨rfl, hsz, hP, hK, hD0, hE⟩ := hv
  have hts := atoms_spec (ws := wsX2_keepTrial) B.pre
  have hown : s.vm.findClass RX2 = some m.cls := findClass_of_methodNamed B.named
  have hlocks := B.notSynchronized
  subst hsz
  have hD := hD0.self (sz := s.heap.size)
  exact wk_X2_keepTrial h_t B_t B_t_racks B_t_trial t_racks t_sizes t_trial_n t_trial_cells B.exec B.bytes hml hown hts hK hE (fun q h => Or.inr h) (Nat.le_refl _) (Nat.le_refl _) (fun t_racks t_sizes H locs ls pc hP hD hS hk hd => W.vret B.exec B.bytes B.returns (fun t ht hW => ⟨⟨(t_racks, t_sizes), rfl, hk, by rw [ht]; exact hP, va_K.moved hW.alike hK, hD⟩, hS.F ht⟩) hS.2.2 hd) hP hD h

abbrev w_X2_agreesUpTo (Y : Nat → ClassId) (h_t : Nat) (B_t : Nat → Nat) (B_t_trial : Nat → Nat) (t_trial_n : Int32) (t_trial_cells : Nat → Int32) : va_W := [(h_t, .inr (2, [.ref (B_t 0), .ref (B_t 1), .ref (B_t 2)])), ((B_t 2), .inr (6, [.ref (B_t_trial 0), .int t_trial_n])), ((B_t_trial 0), .inl (Y 0, 64, .inl t_trial_cells))]

set_option maxHeartbeats 4000000 in
set_option maxRecDepth 100000 in
theorem wk_X2_agreesUpTo {p : Program} {l : Launch} {e : Env} {R : Room} {s : State} {m : MethodId} {args : Array Value} {below : List Frame} {meth : Method} {c : Code} {Q : State → Prop} {G : va_G} {Y : Nat → ClassId} {tF : Nat} {A : Nat → Prop} (h_t : Nat) (B_t : Nat → Nat) (B_t_trial : Nat → Nat) (t_trial_n : Int32) (t_trial_cells : Nat → Int32) (x1 : Int32) {K : Int32 → Prop} (hx : p.tables.exec = Jvm.exec) (hb : c.code = cX2_agreesUpTo) (hml : c.maxLocals = 6) (hown : s.vm.findClass RX2 = some m.cls) (hts : ∀ w ∈ wsX2_agreesUpTo, w.before args s = true) (hK : va_K G vwCl (tyL Y) s) (hE : Ev A tF s) (hA : ∀ q, s.heap.size ≤ q → A q) (hRf : 1 ≤ R.frames) (hRl : 22 ≤ R.locals) (hret : ∀ (r : Int32)  (H : Heap) (locs : List Loc) (ls : Array Slot) (pc : Nat), va_P G vwCl (w_X2_agreesUpTo Y h_t B_t B_t_trial t_trial_n t_trial_cells) H → va_D A (w_X2_agreesUpTo Y h_t B_t B_t_trial t_trial_n t_trial_cells) → va_S A s.heap H locs → zb r → K r → decode cX2_agreesUpTo pc = .ok (.ireturn, 1) → W p l e R s m args below meth c H locs 0 0 Q (F0 m pc ls [.int r])) (hP : va_P G vwCl (w_X2_agreesUpTo Y h_t B_t B_t_trial t_trial_n t_trial_cells) s.heap) (hD : va_D A (w_X2_agreesUpTo Y h_t B_t B_t_trial t_trial_n t_trial_cells)) (h : pX2_agreesUpTo t_trial_n t_trial_cells x1 K) : W p l e R s m args below meth c s.heap [] 0 0 Q (entryFrame m ([.ref h_t, .int x1] : List Value).toArray 6) := by
  have inX2 : ∀ w ∈ u_ws RX2 TX2 3, w ∈ wsX2_agreesUpTo := by decide +kernel
  have inX7 : ∀ w ∈ u_ws RX7 TX7 2, w ∈ wsX2_agreesUpTo := by decide +kernel
  have hf25 := hts (.fieldLink RX2 25 "RackBench$Lister" "trial" "LRackBench$Table;") (by decide +kernel)
  have hl := lv_entry ([.ref h_t, .int x1]) (n := 6) (Nat.le_of_ble_eq_true rfl)
  rw [lg_entry_eq]
  generalize (lg_sl ([.ref h_t, .int x1]) ++ List.replicate (6 - (lg_sl ([.ref h_t, .int x1])).length) Slot.unset).toArray = ls at hl ⊢
  have hl : lv_has ls 6 [(0, .ref h_t), (1, .int x1)] := hl
  generalize hH0 : s.heap = H at hP ⊢
  have hS : va_S A s.heap H [] := by rw [← hH0]; exact va_S.rf
  clear hH0
  generalize ([] : List Loc) = locs at hS ⊢
  refine lv_iconst (v := 0) hx hb dX2_agreesUpTo_0 (by decide) ?_
  refine lv_istore_n (lv' := [(2, .int (0 : Int32)), (0, .ref h_t), (1, .int x1)]) hx hb dX2_agreesUpTo_1 rfl hl (by decide) rfl (fun ls hl => ?_)
  obtain ⟨I2, m2, hI2, hB2⟩ := h
  have L2 : ∀ (x1 : Int32) (I2 : Int32 → Prop) (m2 : Int32 → Nat), (∀ (x2 : Int32), I2 x2 → pX2_agreesUpTo_2 t_trial_n t_trial_cells K x1 x2 (fun x2' => I2 x2' ∧ m2 x2' < m2 x2)) → ∀ (n : Nat) (x2 : Int32) (H : Heap) (locs : List Loc) (ls : Array Slot), I2 x2 → m2 x2 < n → va_P G vwCl (w_X2_agreesUpTo Y h_t B_t B_t_trial t_trial_n t_trial_cells) H → va_D A (w_X2_agreesUpTo Y h_t B_t B_t_trial t_trial_n t_trial_cells) → va_S A s.heap H locs → lv_has ls 6 [(0, .ref h_t), (1, .int x1), (2, .int x2)] → W p l e R s m args below meth c H locs 0 0 Q (F0 m 2 ls []) := by
    intro x1 I2 m2 hB2 n
    induction n with
    | zero => intro x2 H locs ls _ hm; exact absurd hm (Nat.not_lt_zero _)
    | succ n ih =>
      intro x2 H locs ls hI hm hP hD hS hl
      obtain ⟨R2, h, rec2⟩ : ∃ R2 : Int32 → Prop, pX2_agreesUpTo_2 t_trial_n t_trial_cells K x1 x2 R2 ∧ ∀ (x2 : Int32) (H : Heap) (locs : List Loc) (ls : Array Slot), R2 x2 → va_P G vwCl (w_X2_agreesUpTo Y h_t B_t B_t_trial t_trial_n t_trial_cells) H → va_D A (w_X2_agreesUpTo Y h_t B_t B_t_trial t_trial_n t_trial_cells) → va_S A s.heap H locs → lv_has ls 6 [(0, .ref h_t), (1, .int x1), (2, .int x2)] → W p l e R s m args below meth c H locs 0 0 Q (F0 m 2 ls []) := ⟨_, hB2 x2 hI, fun x2 H locs ls hh hP hD hS hl => ih x2 H locs ls hh.1 (Nat.lt_of_lt_of_le hh.2 (Nat.le_of_lt_succ hm)) hP hD hS hl⟩
      refine lv_iload_n hx hb dX2_agreesUpTo_2 rfl (lv_at hl 2 rfl) ?_
      refine lv_iload_n hx hb dX2_agreesUpTo_3 rfl (lv_at hl 1 rfl) ?_
      obtain ⟨ht, hf⟩ := h
      refine lv_icmp_gt (tgt := 106) hx hb dX2_agreesUpTo_4 (by decide) (fun c9 => ?_) (fun c9 => ?_)
      · have h := ht c9
        refine lv_iconst (v := 1) hx hb dX2_agreesUpTo_106 (by decide) ?_
        obtain ⟨hz, h⟩ := h
        exact hret (1 : Int32)  H locs ls _ hP hD hS hz h dX2_agreesUpTo_107
      · have h := hf c9
        refine lv_iconst (v := 0) hx hb dX2_agreesUpTo_7 (by decide) ?_
        refine lv_istore_n (lv' := [(3, .int (0 : Int32)), (0, .ref h_t), (1, .int x1), (2, .int x2)]) hx hb dX2_agreesUpTo_8 rfl hl (by decide) rfl (fun ls hl => ?_)
        obtain ⟨I9, m9, hI9, hB9⟩ := h
        have L9 : ∀ (x2 : Int32) (I9 : Int32 → Prop) (m9 : Int32 → Nat), (∀ (x3 : Int32), I9 x3 → pX2_agreesUpTo_9 t_trial_n t_trial_cells R2 K x1 x2 x3 (fun x3' => I9 x3' ∧ m9 x3' < m9 x3)) → ∀ (n : Nat) (x3 : Int32) (H : Heap) (locs : List Loc) (ls : Array Slot), I9 x3 → m9 x3 < n → va_P G vwCl (w_X2_agreesUpTo Y h_t B_t B_t_trial t_trial_n t_trial_cells) H → va_D A (w_X2_agreesUpTo Y h_t B_t B_t_trial t_trial_n t_trial_cells) → va_S A s.heap H locs → lv_has ls 6 [(0, .ref h_t), (1, .int x1), (2, .int x2), (3, .int x3)] → W p l e R s m args below meth c H locs 0 0 Q (F0 m 9 ls []) := by
          intro x2 I9 m9 hB9 n
          induction n with
          | zero => intro x3 H locs ls _ hm; exact absurd hm (Nat.not_lt_zero _)
          | succ n ih =>
            intro x3 H locs ls hI hm hP hD hS hl
            obtain ⟨R9, h, rec9⟩ : ∃ R9 : Int32 → Prop, pX2_agreesUpTo_9 t_trial_n t_trial_cells R2 K x1 x2 x3 R9 ∧ ∀ (x3 : Int32) (H : Heap) (locs : List Loc) (ls : Array Slot), R9 x3 → va_P G vwCl (w_X2_agreesUpTo Y h_t B_t B_t_trial t_trial_n t_trial_cells) H → va_D A (w_X2_agreesUpTo Y h_t B_t B_t_trial t_trial_n t_trial_cells) → va_S A s.heap H locs → lv_has ls 6 [(0, .ref h_t), (1, .int x1), (2, .int x2), (3, .int x3)] → W p l e R s m args below meth c H locs 0 0 Q (F0 m 9 ls []) := ⟨_, hB9 x3 hI, fun x3 H locs ls hh hP hD hS hl => ih x3 H locs ls hh.1 (Nat.lt_of_lt_of_le hh.2 (Nat.le_of_lt_succ hm)) hP hD hS hl⟩
            refine lv_iload_n hx hb dX2_agreesUpTo_9 rfl (lv_at hl 3 rfl) ?_
            refine lv_iload_n hx hb dX2_agreesUpTo_10 rfl (lv_at hl 1 rfl) ?_
            obtain ⟨ht, hf⟩ := h
            refine lv_icmp_gt (tgt := 100) hx hb dX2_agreesUpTo_11 (by decide) (fun c9 => ?_) (fun c9 => ?_)
            · have h := ht c9
              refine lv_iinc (v := (x2 + 1)) (lv' := [(2, .int (x2 + 1)), (0, .ref h_t), (1, .int x1), (3, .int x3)]) hx hb dX2_agreesUpTo_100 hl (k := 2) rfl rfl (by decide) rfl (fun ls hl => ?_)
              refine lv_goto (tgt := 2) hx hb dX2_agreesUpTo_103 (by decide) ?_
              exact rec2 (x2 + 1) H locs ls h hP hD hS (lv_sub hl [1, 2, 0] rfl)
            · have h := hf c9
              refine lv_aload_n hx hb dX2_agreesUpTo_14 rfl (lv_at hl 0 rfl) ?_
              refine va_get (D := G) (ci := 2) (v := .ref (B_t 2)) (C := RX2) (T := TX2) (N := 3) hx hb hts inX2 hown hK hP 0 rfl rfl 2 (by decide) hf25 (fun _ h9 => h9) rfl dX2_agreesUpTo_15 ?_
              refine lv_iload_n hx hb dX2_agreesUpTo_18 rfl (lv_at hl 2 rfl) ?_
              refine lv_iload_n hx hb dX2_agreesUpTo_19 rfl (lv_at hl 3 rfl) ?_
              refine mc_iV ⟨hx, hb, hml, hown, hts⟩ hK hE hA hP hD hS (c_X7_turned l G Y tF H.size (B_t 2) B_t_trial t_trial_n t_trial_cells x2 x3 h) (cwV 2 hts gX2_agreesUpTo_X7_turned rfl rfl rfl (by decide +kernel) ⟨Nat.le_trans (by decide) hRf, Nat.le_trans (by decide) hRl⟩) (fun u => (w_X2_agreesUpTo Y h_t B_t B_t_trial t_trial_n t_trial_cells)) [1, 2] [0] [0, 1, 2] rfl rfl rfl rfl (by decide) (fun _ => rfl) rfl 1 6 rfl rfl rfl rfl hl.1 rfl (Nat.le_of_ble_eq_true rfl) dX2_agreesUpTo_20 (fun r20 u H locs h hP hD hS => ?_)
              try dsimp only at h
              have hP : va_P G vwCl (w_X2_agreesUpTo Y h_t B_t B_t_trial t_trial_n t_trial_cells) H := hP
              have hD : va_D A (w_X2_agreesUpTo Y h_t B_t B_t_trial t_trial_n t_trial_cells) := hD
              refine lv_istore (lv' := [(4, .int r20), (0, .ref h_t), (1, .int x1), (2, .int x2), (3, .int x3)]) hx hb dX2_agreesUpTo_23 hl (by decide) rfl (fun ls hl => ?_)
              refine lv_iconst (v := 0) hx hb dX2_agreesUpTo_25 (by decide) ?_
              refine lv_istore (lv' := [(5, .int (0 : Int32)), (4, .int r20), (0, .ref h_t), (1, .int x1), (2, .int x2), (3, .int x3)]) hx hb dX2_agreesUpTo_26 hl (by decide) rfl (fun ls hl => ?_)
              obtain ⟨I28, m28, hI28, hB28⟩ := h
              have L28 : ∀ (x3 : Int32) (x4 : Int32) (I28 : Int32 → Prop) (m28 : Int32 → Nat), (∀ (x5 : Int32), I28 x5 → pX2_agreesUpTo_28 t_trial_n t_trial_cells R2 R9 K x1 x2 x3 x4 x5 (fun x5' => I28 x5' ∧ m28 x5' < m28 x5)) → ∀ (n : Nat) (x5 : Int32) (H : Heap) (locs : List Loc) (ls : Array Slot), I28 x5 → m28 x5 < n → va_P G vwCl (w_X2_agreesUpTo Y h_t B_t B_t_trial t_trial_n t_trial_cells) H → va_D A (w_X2_agreesUpTo Y h_t B_t B_t_trial t_trial_n t_trial_cells) → va_S A s.heap H locs → lv_has ls 6 [(0, .ref h_t), (1, .int x1), (2, .int x2), (3, .int x3), (4, .int x4), (5, .int x5)] → W p l e R s m args below meth c H locs 0 0 Q (F0 m 28 ls []) := by
                intro x3 x4 I28 m28 hB28 n
                induction n with
                | zero => intro x5 H locs ls _ hm; exact absurd hm (Nat.not_lt_zero _)
                | succ n ih =>
                  intro x5 H locs ls hI hm hP hD hS hl
                  obtain ⟨R28, h, rec28⟩ : ∃ R28 : Int32 → Prop, pX2_agreesUpTo_28 t_trial_n t_trial_cells R2 R9 K x1 x2 x3 x4 x5 R28 ∧ ∀ (x5 : Int32) (H : Heap) (locs : List Loc) (ls : Array Slot), R28 x5 → va_P G vwCl (w_X2_agreesUpTo Y h_t B_t B_t_trial t_trial_n t_trial_cells) H → va_D A (w_X2_agreesUpTo Y h_t B_t B_t_trial t_trial_n t_trial_cells) → va_S A s.heap H locs → lv_has ls 6 [(0, .ref h_t), (1, .int x1), (2, .int x2), (3, .int x3), (4, .int x4), (5, .int x5)] → W p l e R s m args below meth c H locs 0 0 Q (F0 m 28 ls []) := ⟨_, hB28 x5 hI, fun x5 H locs ls hh hP hD hS hl => ih x5 H locs ls hh.1 (Nat.lt_of_lt_of_le hh.2 (Nat.le_of_lt_succ hm)) hP hD hS hl⟩
                  refine lv_iload hx hb dX2_agreesUpTo_28 (lv_at hl 5 rfl) ?_
                  refine lv_aload_n hx hb dX2_agreesUpTo_30 rfl (lv_at hl 0 rfl) ?_
                  refine va_get (D := G) (ci := 2) (v := .ref (B_t 2)) (C := RX2) (T := TX2) (N := 3) hx hb hts inX2 hown hK hP 0 rfl rfl 2 (by decide) hf25 (fun _ h9 => h9) rfl dX2_agreesUpTo_31 ?_
                  refine va_getN (D := G) (ci := 6) (v := .int t_trial_n) (C := RX7) (T := TX7) (N := 2) hx hb hts inX7 hown hK hP 1 rfl rfl 1 (by decide) (hE.nest args 7 _ rfl) (fun _ h9 => h9) rfl dX2_agreesUpTo_34 ?_
                  obtain ⟨ht, hf⟩ := h
                  refine lv_icmp_ge (tgt := 94) hx hb dX2_agreesUpTo_37 (by decide) (fun c9 => ?_) (fun c9 => ?_)
                  · have h := ht c9
                    refine lv_iinc (v := (x3 + 1)) (lv' := [(3, .int (x3 + 1)), (0, .ref h_t), (1, .int x1), (2, .int x2), (4, .int x4), (5, .int x5)]) hx hb dX2_agreesUpTo_94 hl (k := 3) rfl rfl (by decide) rfl (fun ls hl => ?_)
                    refine lv_goto (tgt := 9) hx hb dX2_agreesUpTo_97 (by decide) ?_
                    exact rec9 (x3 + 1) H locs ls h hP hD hS (lv_sub hl [1, 2, 3, 0] rfl)
                  · have h := hf c9
                    refine lv_iload hx hb dX2_agreesUpTo_40 (lv_at hl 4 rfl) ?_
                    refine lv_iload_n hx hb dX2_agreesUpTo_42 rfl (lv_at hl 1 rfl) ?_
                    obtain ⟨ht, hf⟩ := h
                    refine lv_icmp_gt (tgt := 94) hx hb dX2_agreesUpTo_43 (by decide) (fun c9 => ?_) (fun c9 => ?_)
                    · have h := ht c9
                      refine lv_iinc (v := (x3 + 1)) (lv' := [(3, .int (x3 + 1)), (0, .ref h_t), (1, .int x1), (2, .int x2), (4, .int x4), (5, .int x5)]) hx hb dX2_agreesUpTo_94 hl (k := 3) rfl rfl (by decide) rfl (fun ls hl => ?_)
                      refine lv_goto (tgt := 9) hx hb dX2_agreesUpTo_97 (by decide) ?_
                      exact rec9 (x3 + 1) H locs ls h hP hD hS (lv_sub hl [1, 2, 3, 0] rfl)
                    · have h := hf c9
                      refine lv_aload_n hx hb dX2_agreesUpTo_46 rfl (lv_at hl 0 rfl) ?_
                      refine va_get (D := G) (ci := 2) (v := .ref (B_t 2)) (C := RX2) (T := TX2) (N := 3) hx hb hts inX2 hown hK hP 0 rfl rfl 2 (by decide) hf25 (fun _ h9 => h9) rfl dX2_agreesUpTo_47 ?_
                      refine lv_iload_n hx hb dX2_agreesUpTo_50 rfl (lv_at hl 2 rfl) ?_
                      refine lv_aload_n hx hb dX2_agreesUpTo_51 rfl (lv_at hl 0 rfl) ?_
                      refine va_get (D := G) (ci := 2) (v := .ref (B_t 2)) (C := RX2) (T := TX2) (N := 3) hx hb hts inX2 hown hK hP 0 rfl rfl 2 (by decide) hf25 (fun _ h9 => h9) rfl dX2_agreesUpTo_52 ?_
                      refine lv_iload_n hx hb dX2_agreesUpTo_55 rfl (lv_at hl 3 rfl) ?_
                      refine lv_iload hx hb dX2_agreesUpTo_56 (lv_at hl 5 rfl) ?_
                      refine mc_iV ⟨hx, hb, hml, hown, hts⟩ hK hE hA hP hD hS (c_X7_turned l G Y tF H.size (B_t 2) B_t_trial t_trial_n t_trial_cells x3 x5 h) (cwV 2 hts gX2_agreesUpTo_X7_turned rfl rfl rfl (by decide +kernel) ⟨Nat.le_trans (by decide) hRf, Nat.le_trans (by decide) hRl⟩) (fun u => (w_X2_agreesUpTo Y h_t B_t B_t_trial t_trial_n t_trial_cells)) [1, 2] [0] [0, 1, 2] rfl rfl rfl rfl (by decide) (fun _ => rfl) rfl 1 6 rfl rfl rfl rfl hl.1 rfl (Nat.le_of_ble_eq_true rfl) dX2_agreesUpTo_58 (fun r58 u H locs h hP hD hS => ?_)
                      try dsimp only at h
                      have hP : va_P G vwCl (w_X2_agreesUpTo Y h_t B_t B_t_trial t_trial_n t_trial_cells) H := hP
                      have hD : va_D A (w_X2_agreesUpTo Y h_t B_t B_t_trial t_trial_n t_trial_cells) := hD
                      refine mc_iV ⟨hx, hb, hml, hown, hts⟩ hK hE hA hP hD hS (c_X7_turned l G Y tF H.size (B_t 2) B_t_trial t_trial_n t_trial_cells x2 r58 h) (cwV 2 hts gX2_agreesUpTo_X7_turned rfl rfl rfl (by decide +kernel) ⟨Nat.le_trans (by decide) hRf, Nat.le_trans (by decide) hRl⟩) (fun u => (w_X2_agreesUpTo Y h_t B_t B_t_trial t_trial_n t_trial_cells)) [1, 2] [0] [0, 1, 2] rfl rfl rfl rfl (by decide) (fun _ => rfl) rfl 1 6 rfl rfl rfl rfl hl.1 rfl (Nat.le_of_ble_eq_true rfl) dX2_agreesUpTo_61 (fun r61 u H locs h hP hD hS => ?_)
                      try dsimp only at h
                      have hP : va_P G vwCl (w_X2_agreesUpTo Y h_t B_t B_t_trial t_trial_n t_trial_cells) H := hP
                      have hD : va_D A (w_X2_agreesUpTo Y h_t B_t B_t_trial t_trial_n t_trial_cells) := hD
                      refine lv_aload_n hx hb dX2_agreesUpTo_64 rfl (lv_at hl 0 rfl) ?_
                      refine va_get (D := G) (ci := 2) (v := .ref (B_t 2)) (C := RX2) (T := TX2) (N := 3) hx hb hts inX2 hown hK hP 0 rfl rfl 2 (by decide) hf25 (fun _ h9 => h9) rfl dX2_agreesUpTo_65 ?_
                      refine lv_iload hx hb dX2_agreesUpTo_68 (lv_at hl 4 rfl) ?_
                      refine lv_aload_n hx hb dX2_agreesUpTo_70 rfl (lv_at hl 0 rfl) ?_
                      refine va_get (D := G) (ci := 2) (v := .ref (B_t 2)) (C := RX2) (T := TX2) (N := 3) hx hb hts inX2 hown hK hP 0 rfl rfl 2 (by decide) hf25 (fun _ h9 => h9) rfl dX2_agreesUpTo_71 ?_
                      refine lv_iload_n hx hb dX2_agreesUpTo_74 rfl (lv_at hl 2 rfl) ?_
                      refine lv_iload hx hb dX2_agreesUpTo_75 (lv_at hl 5 rfl) ?_
                      refine mc_iV ⟨hx, hb, hml, hown, hts⟩ hK hE hA hP hD hS (c_X7_turned l G Y tF H.size (B_t 2) B_t_trial t_trial_n t_trial_cells x2 x5 h) (cwV 2 hts gX2_agreesUpTo_X7_turned rfl rfl rfl (by decide +kernel) ⟨Nat.le_trans (by decide) hRf, Nat.le_trans (by decide) hRl⟩) (fun u => (w_X2_agreesUpTo Y h_t B_t B_t_trial t_trial_n t_trial_cells)) [1, 2] [0] [0, 1, 2] rfl rfl rfl rfl (by decide) (fun _ => rfl) rfl 1 6 rfl rfl rfl rfl hl.1 rfl (Nat.le_of_ble_eq_true rfl) dX2_agreesUpTo_77 (fun r77 u H locs h hP hD hS => ?_)
                      try dsimp only at h
                      have hP : va_P G vwCl (w_X2_agreesUpTo Y h_t B_t B_t_trial t_trial_n t_trial_cells) H := hP
                      have hD : va_D A (w_X2_agreesUpTo Y h_t B_t B_t_trial t_trial_n t_trial_cells) := hD
                      refine mc_iV ⟨hx, hb, hml, hown, hts⟩ hK hE hA hP hD hS (c_X7_turned l G Y tF H.size (B_t 2) B_t_trial t_trial_n t_trial_cells x4 r77 h) (cwV 2 hts gX2_agreesUpTo_X7_turned rfl rfl rfl (by decide +kernel) ⟨Nat.le_trans (by decide) hRf, Nat.le_trans (by decide) hRl⟩) (fun u => (w_X2_agreesUpTo Y h_t B_t B_t_trial t_trial_n t_trial_cells)) [1, 2] [0] [0, 1, 2] rfl rfl rfl rfl (by decide) (fun _ => rfl) rfl 1 6 rfl rfl rfl rfl hl.1 rfl (Nat.le_of_ble_eq_true rfl) dX2_agreesUpTo_80 (fun r80 u H locs h hP hD hS => ?_)
                      try dsimp only at h
                      have hP : va_P G vwCl (w_X2_agreesUpTo Y h_t B_t B_t_trial t_trial_n t_trial_cells) H := hP
                      have hD : va_D A (w_X2_agreesUpTo Y h_t B_t B_t_trial t_trial_n t_trial_cells) := hD
                      obtain ⟨ht, hf⟩ := h
                      refine lv_icmp_eq (tgt := 88) hx hb dX2_agreesUpTo_83 (by decide) (fun c9 => ?_) (fun c9 => ?_)
                      · have h := ht c9
                        refine lv_iinc (v := (x5 + 1)) (lv' := [(5, .int (x5 + 1)), (0, .ref h_t), (1, .int x1), (2, .int x2), (3, .int x3), (4, .int x4)]) hx hb dX2_agreesUpTo_88 hl (k := 5) rfl rfl (by decide) rfl (fun ls hl => ?_)
                        refine lv_goto (tgt := 28) hx hb dX2_agreesUpTo_91 (by decide) ?_
                        exact rec28 (x5 + 1) H locs ls h hP hD hS (lv_sub hl [1, 2, 3, 4, 5, 0] rfl)
                      · have h := hf c9
                        refine lv_iconst (v := 0) hx hb dX2_agreesUpTo_86 (by decide) ?_
                        obtain ⟨hz, h⟩ := h
                        exact hret (0 : Int32)  H locs ls _ hP hD hS hz h dX2_agreesUpTo_87
              exact L28 x3 r20 I28 m28 hB28 _ (0 : Int32) H locs ls hI28 (Nat.lt_succ_self _) hP hD hS (lv_sub hl [2, 3, 4, 5, 1, 0] rfl)
        exact L9 x2 I9 m9 hB9 _ (0 : Int32) H locs ls hI9 (Nat.lt_succ_self _) hP hD hS (lv_sub hl [1, 2, 3, 0] rfl)
  exact L2 x1 I2 m2 hB2 _ (0 : Int32) H locs ls hI2 (Nat.lt_succ_self _) hP hD hS (lv_sub hl [1, 2, 0] rfl)

set_option maxHeartbeats 4000000 in
set_option maxRecDepth 100000 in
theorem c_X2_agreesUpTo (l : Launch) (G : va_G) (Y : Nat → ClassId) (tF sz : Nat) (h_t : Nat) (B_t : Nat → Nat) (B_t_trial : Nat → Nat) (t_trial_n : Int32) (t_trial_cells : Nat → Int32) (x1 : Int32) {K : Int32 → Prop} (h : pX2_agreesUpTo t_trial_n t_trial_cells x1 K) : Met l yX2_agreesUpTo wsX2_agreesUpTo ({ frames := 1, cells := 0, slots := 0, locals := 22 }) (PcM G Y tF sz (w_X2_agreesUpTo Y h_t B_t B_t_trial t_trial_n t_trial_cells) [.ref h_t, .int x1]) (va_Qi (fun (r : Int32) (u : Unit) => K r ) (fun u t => BM G Y (va_A (w_X2_agreesUpTo Y h_t B_t B_t_trial t_trial_n t_trial_cells) sz) (w_X2_agreesUpTo Y h_t B_t B_t_trial t_trial_n t_trial_cells) t) (va_A (w_X2_agreesUpTo Y h_t B_t B_t_trial t_trial_n t_trial_cells) sz)) 0 0 (va_A (w_X2_agreesUpTo Y h_t B_t B_t_trial t_trial_n t_trial_cells) sz) := by
  refine Met.ofW (cc := cX2_agreesUpTo) (maxL := 6) (ret := (some .boolean)) (by decide +kernel) rfl ?_
  intro p e s m args below meth c s₁ B hml hv
  obtain ⟨rfl, hsz, hP, hK, hD0, hE⟩ := hv
  have hts := atoms_spec (ws := wsX2_agreesUpTo) B.pre
  have hown : s.vm.findClass RX2 = some m.cls := findClass_of_methodNamed B.named
  have hlocks := B.notSynchronized
  subst hsz
  have hD := hD0.self (sz := s.heap.size)
  exact wk_X2_agreesUpTo h_t B_t B_t_trial t_trial_n t_trial_cells x1 B.exec B.bytes hml hown hts hK hE (fun q h => Or.inr h) (Nat.le_refl _) (Nat.le_refl _) (fun r  H locs ls pc hP hD hS hz hk hd => W.zret (v := r) B.exec B.bytes B.returns hz.n (fun t ht hW => ⟨⟨r, (), rfl, hk, by rw [ht]; exact hP, va_K.moved hW.alike hK, hD⟩, hS.F ht⟩) hS.2.2 hd) hP hD h

abbrev w_X2_fillRow (Y : Nat → ClassId) (h_t : Nat) (h_p2 : Nat) (B_t : Nat → Nat) (B_t_racks : Nat → Nat) (B_t_trial : Nat → Nat) (B_p2 : Nat → Nat) (B_p2_best : Nat → Nat) (t_racks : Nat → Nat → Int32) (t_sizes : Nat → Int32) (t_trial_n : Int32) (t_trial_cells : Nat → Int32) (p2_named : Int32) (p2_best_n : Int32) (p2_best_cells : Nat → Int32) (p2_firstRow : Nat → Int32) (p2_names : Nat → Int32) (p2_things : Nat → Int32) (p2_twins : Nat → Int32) : va_W := [(h_t, .inr (2, [.ref (B_t 0), .ref (B_t 1), .ref (B_t 2)])), ((B_t 0), .inl (Y 3, 5, .inr (.inr (.inr (.inr (fun i => if i < 5 then some (B_t_racks i) else none)))))), ((B_t_racks 0), .inl (Y 0, 19, .inl (t_racks 0))), ((B_t_racks 1), .inl (Y 0, 19, .inl (t_racks 1))), ((B_t_racks 2), .inl (Y 0, 19, .inl (t_racks 2))), ((B_t_racks 3), .inl (Y 0, 19, .inl (t_racks 3))), ((B_t_racks 4), .inl (Y 0, 19, .inl (t_racks 4))), ((B_t 1), .inl (Y 0, 5, .inl t_sizes)), ((B_t 2), .inr (6, [.ref (B_t_trial 0), .int t_trial_n])), ((B_t_trial 0), .inl (Y 0, 64, .inl t_trial_cells)), (h_p2, .inr (4, [.ref (B_p2 0), .ref (B_p2 1), .ref (B_p2 2), .ref (B_p2 3), .ref (B_p2 4), .int p2_named])), ((B_p2 0), .inr (6, [.ref (B_p2_best 0), .int p2_best_n])), ((B_p2_best 0), .inl (Y 0, 64, .inl p2_best_cells)), ((B_p2 4), .inl (Y 0, 8, .inl p2_firstRow)), ((B_p2 2), .inl (Y 0, 8, .inl p2_names)), ((B_p2 1), .inl (Y 0, 8, .inl p2_things)), ((B_p2 3), .inl (Y 0, 8, .inl p2_twins))]

set_option maxHeartbeats 4000000 in
set_option maxRecDepth 100000 in
theorem wk_X2_fillRow {p : Program} {l : Launch} {e : Env} {R : Room} {s : State} {m : MethodId} {args : Array Value} {below : List Frame} {meth : Method} {c : Code} {Q : State → Prop} {G : va_G} {Y : Nat → ClassId} {tF : Nat} {A : Nat → Prop} (h_t : Nat) (h_p2 : Nat) (B_t : Nat → Nat) (B_t_racks : Nat → Nat) (B_t_trial : Nat → Nat) (B_p2 : Nat → Nat) (B_p2_best : Nat → Nat) (t_racks : Nat → Nat → Int32) (t_sizes : Nat → Int32) (t_trial_n : Int32) (t_trial_cells : Nat → Int32) (p2_named : Int32) (p2_best_n : Int32) (p2_best_cells : Nat → Int32) (p2_firstRow : Nat → Int32) (p2_names : Nat → Int32) (p2_things : Nat → Int32) (p2_twins : Nat → Int32) (x1 : Int32) {rec : (Nat → Nat → Int32) → (Nat → Int32) → Int32 → (Nat → Int32) → Int32 → Int32 → (Nat → Int32) → (Nat → Int32) → (Nat → Int32) → (Nat → Int32) → (Nat → Int32) → Int32 → ((Nat → Nat → Int32) → (Nat → Int32) → (Nat → Int32) → Int32 → Int32 → (Nat → Int32) → (Nat → Int32) → (Nat → Int32) → (Nat → Int32) → (Nat → Int32) → Prop) → Prop} {fB lB : Nat} (hRcF : fB + 1 ≤ R.frames) (hRcL : 8 + (4 + 11) + lB ≤ R.locals) (hrec : ∀ (sz : Nat) (h_t : Nat) (h_p2 : Nat) (B_t : Nat → Nat) (B_t_racks : Nat → Nat) (B_t_trial : Nat → Nat) (B_p2 : Nat → Nat) (B_p2_best : Nat → Nat) (t_racks : Nat → Nat → Int32) (t_sizes : Nat → Int32) (t_trial_n : Int32) (t_trial_cells : Nat → Int32) (p2_named : Int32) (p2_best_n : Int32) (p2_best_cells : Nat → Int32) (p2_firstRow : Nat → Int32) (p2_names : Nat → Int32) (p2_things : Nat → Int32) (p2_twins : Nat → Int32) (x1 : Int32) {K : (Nat → Nat → Int32) → (Nat → Int32) → (Nat → Int32) → Int32 → Int32 → (Nat → Int32) → (Nat → Int32) → (Nat → Int32) → (Nat → Int32) → (Nat → Int32) → Prop}, rec t_racks t_sizes t_trial_n t_trial_cells p2_named p2_best_n p2_best_cells p2_firstRow p2_names p2_things p2_twins x1 K → Met l yX2_fillRow wsX2_fillRow ({ frames := fB, cells := 0, slots := 0, locals := lB }) (PcM G Y tF sz (w_X2_fillRow Y h_t h_p2 B_t B_t_racks B_t_trial B_p2 B_p2_best t_racks t_sizes t_trial_n t_trial_cells p2_named p2_best_n p2_best_cells p2_firstRow p2_names p2_things p2_twins) [.ref h_t, .int x1, .ref h_p2]) (va_Qv (fun u : (Nat → Nat → Int32) × (Nat → Int32) × (Nat → Int32) × Int32 × Int32 × (Nat → Int32) × (Nat → Int32) × (Nat → Int32) × (Nat → Int32) × (Nat → Int32) => K u.1 u.2.1 u.2.2.1 u.2.2.2.1 u.2.2.2.2.1 u.2.2.2.2.2.1 u.2.2.2.2.2.2.1 u.2.2.2.2.2.2.2.1 u.2.2.2.2.2.2.2.2.1 u.2.2.2.2.2.2.2.2.2) (fun u t => BM G Y (va_A (w_X2_fillRow Y h_t h_p2 B_t B_t_racks B_t_trial B_p2 B_p2_best t_racks t_sizes t_trial_n t_trial_cells p2_named p2_best_n p2_best_cells p2_firstRow p2_names p2_things p2_twins) sz) (w_X2_fillRow Y h_t h_p2 B_t B_t_racks B_t_trial B_p2 B_p2_best u.1 u.2.1 t_trial_n u.2.2.1 u.2.2.2.1 u.2.2.2.2.1 u.2.2.2.2.2.1 u.2.2.2.2.2.2.1 u.2.2.2.2.2.2.2.1 u.2.2.2.2.2.2.2.2.1 u.2.2.2.2.2.2.2.2.2) t) (va_A (w_X2_fillRow Y h_t h_p2 B_t B_t_racks B_t_trial B_p2 B_p2_best t_racks t_sizes t_trial_n t_trial_cells p2_named p2_best_n p2_best_cells p2_firstRow p2_names p2_things p2_twins) sz)) 0 0 (va_A (w_X2_fillRow Y h_t h_p2 B_t B_t_racks B_t_trial B_p2 B_p2_best t_racks t_sizes t_trial_n t_trial_cells p2_named p2_best_n p2_best_cells p2_firstRow p2_names p2_things p2_twins) sz)) {K : (Nat → Nat → Int32) → (Nat → Int32) → (Nat → Int32) → Int32 → Int32 → (Nat → Int32) → (Nat → Int32) → (Nat → Int32) → (Nat → Int32) → (Nat → Int32) → Prop} (hx : p.tables.exec = Jvm.exec) (hb : c.code = cX2_fillRow) (hml : c.maxLocals = 4) (hown : s.vm.findClass RX2 = some m.cls) (hts : ∀ w ∈ wsX2_fillRow, w.before args s = true) (hK : va_K G vwCl (tyL Y) s) (hE : Ev A tF s) (hA : ∀ q, s.heap.size ≤ q → A q) (hRf : 24 ≤ R.frames) (hRl : 560 ≤ R.locals) (hret : ∀ (t_racks : Nat → Nat → Int32) (t_sizes : Nat → Int32) (t_trial_cells : Nat → Int32) (p2_named : Int32) (p2_best_n : Int32) (p2_best_cells : Nat → Int32) (p2_firstRow : Nat → Int32) (p2_names : Nat → Int32) (p2_things : Nat → Int32) (p2_twins : Nat → Int32) (H : Heap) (locs : List Loc) (ls : Array Slot) (pc : Nat), va_P G vwCl (w_X2_fillRow Y h_t h_p2 B_t B_t_racks B_t_trial B_p2 B_p2_best t_racks t_sizes t_trial_n t_trial_cells p2_named p2_best_n p2_best_cells p2_firstRow p2_names p2_things p2_twins) H → va_D A (w_X2_fillRow Y h_t h_p2 B_t B_t_racks B_t_trial B_p2 B_p2_best t_racks t_sizes t_trial_n t_trial_cells p2_named p2_best_n p2_best_cells p2_firstRow p2_names p2_things p2_twins) → va_S A s.heap H locs → K t_racks t_sizes t_trial_cells p2_named p2_best_n p2_best_cells p2_firstRow p2_names p2_things p2_twins → decode cX2_fillRow pc = .ok (.return_, 1) → W p l e R s m args below meth c H locs 0 0 Q (F0 m pc ls [])) (hP : va_P G vwCl (w_X2_fillRow Y h_t h_p2 B_t B_t_racks B_t_trial B_p2 B_p2_best t_racks t_sizes t_trial_n t_trial_cells p2_named p2_best_n p2_best_cells p2_firstRow p2_names p2_things p2_twins) s.heap) (hD : va_D A (w_X2_fillRow Y h_t h_p2 B_t B_t_racks B_t_trial B_p2 B_p2_best t_racks t_sizes t_trial_n t_trial_cells p2_named p2_best_n p2_best_cells p2_firstRow p2_names p2_things p2_twins)) (h : pX2_fillRow_b rec t_racks t_sizes t_trial_n t_trial_cells p2_named p2_best_n p2_best_cells p2_firstRow p2_names p2_things p2_twins x1 K) : W p l e R s m args below meth c s.heap [] 0 0 Q (entryFrame m ([.ref h_t, .int x1, .ref h_p2] : List Value).toArray 4) := by
  have inX2 : ∀ w ∈ u_ws RX2 TX2 3, w ∈ wsX2_fillRow := by decide +kernel
  have inX7 : ∀ w ∈ u_ws RX7 TX7 2, w ∈ wsX2_fillRow := by decide +kernel
  have hf25 := hts (.fieldLink RX2 25 "RackBench$Lister" "trial" "LRackBench$Table;") (by decide +kernel)
  have hl := lv_entry ([.ref h_t, .int x1, .ref h_p2]) (n := 4) (Nat.le_of_ble_eq_true rfl)
  rw [lg_entry_eq]
  generalize (lg_sl ([.ref h_t, .int x1, .ref h_p2]) ++ List.replicate (4 - (lg_sl ([.ref h_t, .int x1, .ref h_p2])).length) Slot.unset).toArray = ls at hl ⊢
  have hl : lv_has ls 4 [(0, .ref h_t), (1, .int x1), (2, .ref h_p2)] := hl
  generalize hH0 : s.heap = H at hP ⊢
  have hS : va_S A s.heap H [] := by rw [← hH0]; exact va_S.rf
  clear hH0
  generalize ([] : List Loc) = locs at hS ⊢
  refine lv_iload_n hx hb dX2_fillRow_0 rfl (lv_at hl 1 rfl) ?_
  refine lv_aload_n hx hb dX2_fillRow_1 rfl (lv_at hl 0 rfl) ?_
  refine va_get (D := G) (ci := 2) (v := .ref (B_t 2)) (C := RX2) (T := TX2) (N := 3) hx hb hts inX2 hown hK hP 0 rfl rfl 2 (by decide) hf25 (fun _ h9 => h9) rfl dX2_fillRow_2 ?_
  refine va_getN (D := G) (ci := 6) (v := .int t_trial_n) (C := RX7) (T := TX7) (N := 2) hx hb hts inX7 hown hK hP 8 rfl rfl 1 (by decide) (hE.nest args 7 _ rfl) (fun _ h9 => h9) rfl dX2_fillRow_5 ?_
  obtain ⟨ht, hf⟩ := h
  refine lv_icmp_lt (tgt := 27) hx hb dX2_fillRow_8 (by decide) (fun c9 => ?_) (fun c9 => ?_)
  · have h := ht c9
    refine lv_iconst (v := 0) hx hb dX2_fillRow_27 (by decide) ?_
    refine lv_istore_n (lv' := [(3, .int (0 : Int32)), (0, .ref h_t), (1, .int x1), (2, .ref h_p2)]) hx hb dX2_fillRow_28 rfl hl (by decide) rfl (fun ls hl => ?_)
    obtain ⟨I29, m29, hI29, hB29⟩ := h
    have L29 : ∀ (x1 : Int32) (I29 : Int32 → (Nat → Nat → Int32) → (Nat → Int32) → (Nat → Int32) → Int32 → Int32 → (Nat → Int32) → (Nat → Int32) → (Nat → Int32) → (Nat → Int32) → (Nat → Int32) → Prop) (m29 : Int32 → (Nat → Nat → Int32) → (Nat → Int32) → (Nat → Int32) → Int32 → Int32 → (Nat → Int32) → (Nat → Int32) → (Nat → Int32) → (Nat → Int32) → (Nat → Int32) → Nat), (∀ (x3 : Int32) (t_racks : Nat → Nat → Int32) (t_sizes : Nat → Int32) (t_trial_cells : Nat → Int32) (p2_named : Int32) (p2_best_n : Int32) (p2_best_cells : Nat → Int32) (p2_firstRow : Nat → Int32) (p2_names : Nat → Int32) (p2_things : Nat → Int32) (p2_twins : Nat → Int32), I29 x3 t_racks t_sizes t_trial_cells p2_named p2_best_n p2_best_cells p2_firstRow p2_names p2_things p2_twins → pX2_fillRow_29 t_trial_n rec K x1 x3 t_racks t_sizes t_trial_cells p2_named p2_best_n p2_best_cells p2_firstRow p2_names p2_things p2_twins (fun x3' t_racks' t_sizes' t_trial_cells' p2_named' p2_best_n' p2_best_cells' p2_firstRow' p2_names' p2_things' p2_twins' => I29 x3' t_racks' t_sizes' t_trial_cells' p2_named' p2_best_n' p2_best_cells' p2_firstRow' p2_names' p2_things' p2_twins' ∧ m29 x3' t_racks' t_sizes' t_trial_cells' p2_named' p2_best_n' p2_best_cells' p2_firstRow' p2_names' p2_things' p2_twins' < m29 x3 t_racks t_sizes t_trial_cells p2_named p2_best_n p2_best_cells p2_firstRow p2_names p2_things p2_twins)) → ∀ (n : Nat) (x3 : Int32) (t_racks : Nat → Nat → Int32) (t_sizes : Nat → Int32) (t_trial_cells : Nat → Int32) (p2_named : Int32) (p2_best_n : Int32) (p2_best_cells : Nat → Int32) (p2_firstRow : Nat → Int32) (p2_names : Nat → Int32) (p2_things : Nat → Int32) (p2_twins : Nat → Int32) (H : Heap) (locs : List Loc) (ls : Array Slot), I29 x3 t_racks t_sizes t_trial_cells p2_named p2_best_n p2_best_cells p2_firstRow p2_names p2_things p2_twins → m29 x3 t_racks t_sizes t_trial_cells p2_named p2_best_n p2_best_cells p2_firstRow p2_names p2_things p2_twins < n → va_P G vwCl (w_X2_fillRow Y h_t h_p2 B_t B_t_racks B_t_trial B_p2 B_p2_best t_racks t_sizes t_trial_n t_trial_cells p2_named p2_best_n p2_best_cells p2_firstRow p2_names p2_things p2_twins) H → va_D A (w_X2_fillRow Y h_t h_p2 B_t B_t_racks B_t_trial B_p2 B_p2_best t_racks t_sizes t_trial_n t_trial_cells p2_named p2_best_n p2_best_cells p2_firstRow p2_names p2_things p2_twins) → va_S A s.heap H locs → lv_has ls 4 [(0, .ref h_t), (1, .int x1), (2, .ref h_p2), (3, .int x3)] → W p l e R s m args below meth c H locs 0 0 Q (F0 m 29 ls []) := by
      intro x1 I29 m29 hB29 n
      induction n with
      | zero => intro x3 t_racks t_sizes t_trial_cells p2_named p2_best_n p2_best_cells p2_firstRow p2_names p2_things p2_twins H locs ls _ hm; exact absurd hm (Nat.not_lt_zero _)
      | succ n ih =>
        intro x3 t_racks t_sizes t_trial_cells p2_named p2_best_n p2_best_cells p2_firstRow p2_names p2_things p2_twins H locs ls hI hm hP hD hS hl
        obtain ⟨R29, h, rec29⟩ : ∃ R29 : Int32 → (Nat → Nat → Int32) → (Nat → Int32) → (Nat → Int32) → Int32 → Int32 → (Nat → Int32) → (Nat → Int32) → (Nat → Int32) → (Nat → Int32) → (Nat → Int32) → Prop, pX2_fillRow_29 t_trial_n rec K x1 x3 t_racks t_sizes t_trial_cells p2_named p2_best_n p2_best_cells p2_firstRow p2_names p2_things p2_twins R29 ∧ ∀ (x3 : Int32) (t_racks : Nat → Nat → Int32) (t_sizes : Nat → Int32) (t_trial_cells : Nat → Int32) (p2_named : Int32) (p2_best_n : Int32) (p2_best_cells : Nat → Int32) (p2_firstRow : Nat → Int32) (p2_names : Nat → Int32) (p2_things : Nat → Int32) (p2_twins : Nat → Int32) (H : Heap) (locs : List Loc) (ls : Array Slot), R29 x3 t_racks t_sizes t_trial_cells p2_named p2_best_n p2_best_cells p2_firstRow p2_names p2_things p2_twins → va_P G vwCl (w_X2_fillRow Y h_t h_p2 B_t B_t_racks B_t_trial B_p2 B_p2_best t_racks t_sizes t_trial_n t_trial_cells p2_named p2_best_n p2_best_cells p2_firstRow p2_names p2_things p2_twins) H → va_D A (w_X2_fillRow Y h_t h_p2 B_t B_t_racks B_t_trial B_p2 B_p2_best t_racks t_sizes t_trial_n t_trial_cells p2_named p2_best_n p2_best_cells p2_firstRow p2_names p2_things p2_twins) → va_S A s.heap H locs → lv_has ls 4 [(0, .ref h_t), (1, .int x1), (2, .ref h_p2), (3, .int x3)] → W p l e R s m args below meth c H locs 0 0 Q (F0 m 29 ls []) := ⟨_, hB29 x3 t_racks t_sizes t_trial_cells p2_named p2_best_n p2_best_cells p2_firstRow p2_names p2_things p2_twins hI, fun x3 t_racks t_sizes t_trial_cells p2_named p2_best_n p2_best_cells p2_firstRow p2_names p2_things p2_twins H locs ls hh hP hD hS hl => ih x3 t_racks t_sizes t_trial_cells p2_named p2_best_n p2_best_cells p2_firstRow p2_names p2_things p2_twins H locs ls hh.1 (Nat.lt_of_lt_of_le hh.2 (Nat.le_of_lt_succ hm)) hP hD hS hl⟩
        refine lv_iload_n hx hb dX2_fillRow_29 rfl (lv_at hl 3 rfl) ?_
        refine va_getsN hx hb hE.2.1 hS hown (hE.nest args 8 _ rfl) (fun _ h9 => h9) dX2_fillRow_30 ?_
        refine lv_aload_n hx hb dX2_fillRow_33 rfl (lv_at hl 0 rfl) ?_
        refine va_get (D := G) (ci := 2) (v := .ref (B_t 2)) (C := RX2) (T := TX2) (N := 3) hx hb hts inX2 hown hK hP 0 rfl rfl 2 (by decide) hf25 (fun _ h9 => h9) rfl dX2_fillRow_34 ?_
        refine va_getN (D := G) (ci := 6) (v := .int t_trial_n) (C := RX7) (T := TX7) (N := 2) hx hb hts inX7 hown hK hP 8 rfl rfl 1 (by decide) (hE.nest args 7 _ rfl) (fun _ h9 => h9) rfl dX2_fillRow_37 ?_
        obtain ⟨hin, h⟩ := h
        refine va_ti hx hb hE.2.2 hS hin rfl dX2_fillRow_40 ?_
        obtain ⟨ht, hf⟩ := h
        refine lv_icmp_ge (tgt := 85) hx hb dX2_fillRow_41 (by decide) (fun c9 => ?_) (fun c9 => ?_)
        · have h := ht c9
          exact hret t_racks t_sizes t_trial_cells p2_named p2_best_n p2_best_cells p2_firstRow p2_names p2_things p2_twins H locs ls _ hP hD hS h dX2_fillRow_85
        · have h := hf c9
          refine lv_aload_n hx hb dX2_fillRow_44 rfl (lv_at hl 0 rfl) ?_
          refine va_get (D := G) (ci := 2) (v := .ref (B_t 2)) (C := RX2) (T := TX2) (N := 3) hx hb hts inX2 hown hK hP 0 rfl rfl 2 (by decide) hf25 (fun _ h9 => h9) rfl dX2_fillRow_45 ?_
          refine lv_iload_n hx hb dX2_fillRow_48 rfl (lv_at hl 1 rfl) ?_
          refine lv_aload_n hx hb dX2_fillRow_49 rfl (lv_at hl 0 rfl) ?_
          refine va_get (D := G) (ci := 2) (v := .ref (B_t 2)) (C := RX2) (T := TX2) (N := 3) hx hb hts inX2 hown hK hP 0 rfl rfl 2 (by decide) hf25 (fun _ h9 => h9) rfl dX2_fillRow_50 ?_
          refine va_getN (D := G) (ci := 6) (v := .int t_trial_n) (C := RX7) (T := TX7) (N := 2) hx hb hts inX7 hown hK hP 8 rfl rfl 1 (by decide) (hE.nest args 7 _ rfl) (fun _ h9 => h9) rfl dX2_fillRow_53 ?_
          refine lv_iload_n hx hb dX2_fillRow_56 rfl (lv_at hl 3 rfl) ?_
          refine mc_iS ⟨hx, hb, hml, hown, hts⟩ hK hE hA hP hD hS (c_X5_numbered l G Y tF H.size t_trial_n x3 h) (va_cwS 2 hts gX2_fillRow_X5_numbered rfl rfl rfl (by decide +kernel) ⟨Nat.le_trans (by decide) hRf, Nat.le_trans (by decide) hRl⟩) (fun u => (w_X2_fillRow Y h_t h_p2 B_t B_t_racks B_t_trial B_p2 B_p2_best t_racks t_sizes t_trial_n t_trial_cells p2_named p2_best_n p2_best_cells p2_firstRow p2_names p2_things p2_twins)) [] [0, 1, 2, 3, 4, 5, 6, 7, 8, 9, 10, 11, 12, 13, 14, 15, 16] [0, 1, 2, 3, 4, 5, 6, 7, 8, 9, 10, 11, 12, 13, 14, 15, 16] rfl rfl rfl rfl (by decide) (fun _ => rfl) rfl rfl hl.1 rfl (Nat.le_of_ble_eq_true rfl) dX2_fillRow_57 (fun r57 u H locs h hP hD hS => ?_)
          try dsimp only at h
          have hP : va_P G vwCl (w_X2_fillRow Y h_t h_p2 B_t B_t_racks B_t_trial B_p2 B_p2_best t_racks t_sizes t_trial_n t_trial_cells p2_named p2_best_n p2_best_cells p2_firstRow p2_names p2_things p2_twins) H := hP
          have hD : va_D A (w_X2_fillRow Y h_t h_p2 B_t B_t_racks B_t_trial B_p2 B_p2_best t_racks t_sizes t_trial_n t_trial_cells p2_named p2_best_n p2_best_cells p2_firstRow p2_names p2_things p2_twins) := hD
          refine mc_vV ⟨hx, hb, hml, hown, hts⟩ hK hE hA hP hD hS (c_X7_putRow l G Y tF H.size (B_t 2) B_t_trial t_trial_n t_trial_cells x1 r57 h) (cwV 2 hts gX2_fillRow_X7_putRow rfl rfl rfl (by decide +kernel) ⟨Nat.le_trans (by decide) hRf, Nat.le_trans (by decide) hRl⟩) (fun u => (w_X2_fillRow Y h_t h_p2 B_t B_t_racks B_t_trial B_p2 B_p2_best t_racks t_sizes t_trial_n u p2_named p2_best_n p2_best_cells p2_firstRow p2_names p2_things p2_twins)) [8, 9] [0, 1, 2, 3, 4, 5, 6, 7, 10, 11, 12, 13, 14, 15, 16] [0, 1, 2, 3, 4, 5, 6, 7, 15, 16, 8, 9, 10, 11, 12, 13, 14] rfl rfl rfl rfl (by decide) (fun _ => rfl) rfl 8 6 rfl rfl rfl rfl hl.1 rfl (Nat.le_of_ble_eq_true rfl) dX2_fillRow_60 (fun u H locs h hP hD hS => ?_)
          obtain ⟨t_trial_cells_60, rfl⟩ : ∃ z, z = u := ⟨_, rfl⟩
          try dsimp only at h
          have hP : va_P G vwCl (w_X2_fillRow Y h_t h_p2 B_t B_t_racks B_t_trial B_p2 B_p2_best t_racks t_sizes t_trial_n t_trial_cells_60 p2_named p2_best_n p2_best_cells p2_firstRow p2_names p2_things p2_twins) H := hP
          have hD : va_D A (w_X2_fillRow Y h_t h_p2 B_t B_t_racks B_t_trial B_p2 B_p2_best t_racks t_sizes t_trial_n t_trial_cells_60 p2_named p2_best_n p2_best_cells p2_firstRow p2_names p2_things p2_twins) := hD
          refine lv_aload_n hx hb dX2_fillRow_63 rfl (lv_at hl 0 rfl) ?_
          refine lv_iload_n hx hb dX2_fillRow_64 rfl (lv_at hl 1 rfl) ?_
          refine mc_iV ⟨hx, hb, hml, hown, hts⟩ hK hE hA hP hD hS (c_X2_agreesUpTo l G Y tF H.size h_t B_t B_t_trial t_trial_n t_trial_cells_60 x1 h) (cwV 1 hts gX2_fillRow_X2_agreesUpTo rfl rfl rfl (by decide +kernel) ⟨Nat.le_trans (by decide) hRf, Nat.le_trans (by decide) hRl⟩) (fun u => (w_X2_fillRow Y h_t h_p2 B_t B_t_racks B_t_trial B_p2 B_p2_best t_racks t_sizes t_trial_n t_trial_cells_60 p2_named p2_best_n p2_best_cells p2_firstRow p2_names p2_things p2_twins)) [0, 8, 9] [1, 2, 3, 4, 5, 6, 7, 10, 11, 12, 13, 14, 15, 16] [14, 0, 1, 2, 3, 4, 5, 6, 15, 16, 7, 8, 9, 10, 11, 12, 13] rfl rfl rfl rfl (by decide) (fun _ => rfl) rfl 0 2 rfl rfl rfl rfl hl.1 rfl (Nat.le_of_ble_eq_true rfl) dX2_fillRow_65 (fun r65 u H locs h hP hD hS => ?_)
          try dsimp only at h
          have hP : va_P G vwCl (w_X2_fillRow Y h_t h_p2 B_t B_t_racks B_t_trial B_p2 B_p2_best t_racks t_sizes t_trial_n t_trial_cells_60 p2_named p2_best_n p2_best_cells p2_firstRow p2_names p2_things p2_twins) H := hP
          have hD : va_D A (w_X2_fillRow Y h_t h_p2 B_t B_t_racks B_t_trial B_p2 B_p2_best t_racks t_sizes t_trial_n t_trial_cells_60 p2_named p2_best_n p2_best_cells p2_firstRow p2_names p2_things p2_twins) := hD
          obtain ⟨ht, hf⟩ := h
          refine lv_if_eq (tgt := 79) hx hb dX2_fillRow_68 (by decide) (fun c9 => ?_) (fun c9 => ?_)
          · have h := ht c9
            refine lv_iinc (v := (x3 + 1)) (lv' := [(3, .int (x3 + 1)), (0, .ref h_t), (1, .int x1), (2, .ref h_p2)]) hx hb dX2_fillRow_79 hl (k := 3) rfl rfl (by decide) rfl (fun ls hl => ?_)
            refine lv_goto (tgt := 29) hx hb dX2_fillRow_82 (by decide) ?_
            exact rec29 (x3 + 1) t_racks t_sizes t_trial_cells_60 p2_named p2_best_n p2_best_cells p2_firstRow p2_names p2_things p2_twins H locs ls h hP hD hS (lv_sub hl [1, 2, 3, 0] rfl)
          · have h := hf c9
            refine lv_aload_n hx hb dX2_fillRow_71 rfl (lv_at hl 0 rfl) ?_
            refine lv_iload_n hx hb dX2_fillRow_72 rfl (lv_at hl 1 rfl) ?_
            refine lv_iconst (v := 1) hx hb dX2_fillRow_73 (by decide) ?_
            refine lv_iadd hx hb dX2_fillRow_74 ?_
            refine lv_aload_n hx hb dX2_fillRow_75 rfl (lv_at hl 2 rfl) ?_
            refine mc_vV ⟨hx, hb, hml, hown, hts⟩ hK hE hA hP hD hS (hrec H.size h_t h_p2 B_t B_t_racks B_t_trial B_p2 B_p2_best t_racks t_sizes t_trial_n t_trial_cells_60 p2_named p2_best_n p2_best_cells p2_firstRow p2_names p2_things p2_twins (x1 + (1 : Int32)) h) (cwV 2 hts gX2_fillRow_X2_fillRow rfl rfl rfl (by decide +kernel) ⟨hRcF, hRcL⟩) (fun u => (w_X2_fillRow Y h_t h_p2 B_t B_t_racks B_t_trial B_p2 B_p2_best u.1 u.2.1 t_trial_n u.2.2.1 u.2.2.2.1 u.2.2.2.2.1 u.2.2.2.2.2.1 u.2.2.2.2.2.2.1 u.2.2.2.2.2.2.2.1 u.2.2.2.2.2.2.2.2.1 u.2.2.2.2.2.2.2.2.2)) [0, 1, 2, 3, 4, 5, 6, 7, 8, 9, 10, 11, 12, 13, 14, 15, 16] [] [0, 1, 2, 3, 4, 5, 6, 7, 8, 9, 10, 11, 12, 13, 14, 15, 16] rfl rfl rfl rfl (by decide) (fun _ => rfl) rfl 0 2 rfl rfl rfl rfl hl.1 rfl (Nat.le_of_ble_eq_true rfl) dX2_fillRow_76 (fun u H locs h hP hD hS => ?_)
            obtain ⟨t_racks_76, t_sizes_76, t_trial_cells_76, p2_named_76, p2_best_n_76, p2_best_cells_76, p2_firstRow_76, p2_names_76, p2_things_76, p2_twins_76⟩ := u
            try dsimp only at h
            have hP : va_P G vwCl (w_X2_fillRow Y h_t h_p2 B_t B_t_racks B_t_trial B_p2 B_p2_best t_racks_76 t_sizes_76 t_trial_n t_trial_cells_76 p2_named_76 p2_best_n_76 p2_best_cells_76 p2_firstRow_76 p2_names_76 p2_things_76 p2_twins_76) H := hP
            have hD : va_D A (w_X2_fillRow Y h_t h_p2 B_t B_t_racks B_t_trial B_p2 B_p2_best t_racks_76 t_sizes_76 t_trial_n t_trial_cells_76 p2_named_76 p2_best_n_76 p2_best_cells_76 p2_firstRow_76 p2_names_76 p2_things_76 p2_twins_76) := hD
            refine lv_iinc (v := (x3 + 1)) (lv' := [(3, .int (x3 + 1)), (0, .ref h_t), (1, .int x1), (2, .ref h_p2)]) hx hb dX2_fillRow_79 hl (k := 3) rfl rfl (by decide) rfl (fun ls hl => ?_)
            refine lv_goto (tgt := 29) hx hb dX2_fillRow_82 (by decide) ?_
            exact rec29 (x3 + 1) t_racks_76 t_sizes_76 t_trial_cells_76 p2_named_76 p2_best_n_76 p2_best_cells_76 p2_firstRow_76 p2_names_76 p2_things_76 p2_twins_76 H locs ls h hP hD hS (lv_sub hl [1, 2, 3, 0] rfl)
    exact L29 x1 I29 m29 hB29 _ (0 : Int32) t_racks t_sizes t_trial_cells p2_named p2_best_n p2_best_cells p2_firstRow p2_names p2_things p2_twins H locs ls hI29 (Nat.lt_succ_self _) hP hD hS (lv_sub hl [1, 2, 3, 0] rfl)
  · have h := hf c9
    refine lv_aload_n hx hb dX2_fillRow_11 rfl (lv_at hl 2 rfl) ?_
    refine lv_aload_n hx hb dX2_fillRow_12 rfl (lv_at hl 0 rfl) ?_
    refine va_get (D := G) (ci := 2) (v := .ref (B_t 2)) (C := RX2) (T := TX2) (N := 3) hx hb hts inX2 hown hK hP 0 rfl rfl 2 (by decide) hf25 (fun _ h9 => h9) rfl dX2_fillRow_13 ?_
    refine mc_iV ⟨hx, hb, hml, hown, hts⟩ hK hE hA hP hD hS (c_X4_lessen l G Y tF H.size h_p2 (B_t 2) B_p2 B_p2_best B_t_trial p2_named p2_best_n p2_best_cells p2_firstRow p2_names p2_things p2_twins t_trial_n t_trial_cells h) (cwV 1 hts gX2_fillRow_X4_lessen rfl rfl rfl (by decide +kernel) ⟨Nat.le_trans (by decide) hRf, Nat.le_trans (by decide) hRl⟩) (fun u => (w_X2_fillRow Y h_t h_p2 B_t B_t_racks B_t_trial B_p2 B_p2_best t_racks t_sizes t_trial_n t_trial_cells u.1 u.2.1 u.2.2.1 u.2.2.2.1 u.2.2.2.2.1 u.2.2.2.2.2.1 u.2.2.2.2.2.2)) [10, 11, 12, 13, 14, 15, 16, 8, 9] [0, 1, 2, 3, 4, 5, 6, 7] [0, 1, 2, 3, 4, 5, 6, 7, 15, 16, 8, 9, 10, 11, 12, 13, 14] rfl rfl rfl rfl (by decide) (fun _ => rfl) rfl 10 4 rfl rfl rfl rfl hl.1 rfl (Nat.le_of_ble_eq_true rfl) dX2_fillRow_16 (fun r16 u H locs h hP hD hS => ?_)
    obtain ⟨p2_named_16, p2_best_n_16, p2_best_cells_16, p2_firstRow_16, p2_names_16, p2_things_16, p2_twins_16⟩ := u
    try dsimp only at h
    have hP : va_P G vwCl (w_X2_fillRow Y h_t h_p2 B_t B_t_racks B_t_trial B_p2 B_p2_best t_racks t_sizes t_trial_n t_trial_cells p2_named_16 p2_best_n_16 p2_best_cells_16 p2_firstRow_16 p2_names_16 p2_things_16 p2_twins_16) H := hP
    have hD : va_D A (w_X2_fillRow Y h_t h_p2 B_t B_t_racks B_t_trial B_p2 B_p2_best t_racks t_sizes t_trial_n t_trial_cells p2_named_16 p2_best_n_16 p2_best_cells_16 p2_firstRow_16 p2_names_16 p2_things_16 p2_twins_16) := hD
    obtain ⟨ht, hf⟩ := h
    refine lv_if_ne (tgt := 26) hx hb dX2_fillRow_19 (by decide) (fun c9 => ?_) (fun c9 => ?_)
    · have h := ht c9
      exact hret t_racks t_sizes t_trial_cells p2_named_16 p2_best_n_16 p2_best_cells_16 p2_firstRow_16 p2_names_16 p2_things_16 p2_twins_16 H locs ls _ hP hD hS h dX2_fillRow_26
    · have h := hf c9
      refine lv_aload_n hx hb dX2_fillRow_22 rfl (lv_at hl 0 rfl) ?_
      refine mc_vV ⟨hx, hb, hml, hown, hts⟩ hK hE hA hP hD hS (c_X2_keepTrial l G Y tF H.size h_t B_t B_t_racks B_t_trial t_racks t_sizes t_trial_n t_trial_cells h) (cwV 0 hts gX2_fillRow_X2_keepTrial rfl rfl rfl (by decide +kernel) ⟨Nat.le_trans (by decide) hRf, Nat.le_trans (by decide) hRl⟩) (fun u => (w_X2_fillRow Y h_t h_p2 B_t B_t_racks B_t_trial B_p2 B_p2_best u.1 u.2 t_trial_n t_trial_cells p2_named_16 p2_best_n_16 p2_best_cells_16 p2_firstRow_16 p2_names_16 p2_things_16 p2_twins_16)) [0, 1, 2, 3, 4, 5, 6, 7, 8, 9] [10, 11, 12, 13, 14, 15, 16] [7, 8, 9, 10, 11, 12, 13, 14, 15, 16, 0, 1, 2, 3, 4, 5, 6] rfl rfl rfl rfl (by decide) (fun _ => rfl) rfl 0 2 rfl rfl rfl rfl hl.1 rfl (Nat.le_of_ble_eq_true rfl) dX2_fillRow_23 (fun u H locs h hP hD hS => ?_)
      obtain ⟨t_racks_23, t_sizes_23⟩ := u
      try dsimp only at h
      have hP : va_P G vwCl (w_X2_fillRow Y h_t h_p2 B_t B_t_racks B_t_trial B_p2 B_p2_best t_racks_23 t_sizes_23 t_trial_n t_trial_cells p2_named_16 p2_best_n_16 p2_best_cells_16 p2_firstRow_16 p2_names_16 p2_things_16 p2_twins_16) H := hP
      have hD : va_D A (w_X2_fillRow Y h_t h_p2 B_t B_t_racks B_t_trial B_p2 B_p2_best t_racks_23 t_sizes_23 t_trial_n t_trial_cells p2_named_16 p2_best_n_16 p2_best_cells_16 p2_firstRow_16 p2_names_16 p2_things_16 p2_twins_16) := hD
      exact hret t_racks_23 t_sizes_23 t_trial_cells p2_named_16 p2_best_n_16 p2_best_cells_16 p2_firstRow_16 p2_names_16 p2_things_16 p2_twins_16 H locs ls _ hP hD hS h dX2_fillRow_26

set_option maxHeartbeats 4000000 in
set_option maxRecDepth 100000 in
theorem cs_X2_fillRow (l : Launch) (d : Nat) (G : va_G) (Y : Nat → ClassId) (tF sz : Nat) (h_t : Nat) (h_p2 : Nat) (B_t : Nat → Nat) (B_t_racks : Nat → Nat) (B_t_trial : Nat → Nat) (B_p2 : Nat → Nat) (B_p2_best : Nat → Nat) (t_racks : Nat → Nat → Int32) (t_sizes : Nat → Int32) (t_trial_n : Int32) (t_trial_cells : Nat → Int32) (p2_named : Int32) (p2_best_n : Int32) (p2_best_cells : Nat → Int32) (p2_firstRow : Nat → Int32) (p2_names : Nat → Int32) (p2_things : Nat → Int32) (p2_twins : Nat → Int32) (x1 : Int32) {K : (Nat → Nat → Int32) → (Nat → Int32) → (Nat → Int32) → Int32 → Int32 → (Nat → Int32) → (Nat → Int32) → (Nat → Int32) → (Nat → Int32) → (Nat → Int32) → Prop} (hrec : ∀ (sz : Nat) (h_t : Nat) (h_p2 : Nat) (B_t : Nat → Nat) (B_t_racks : Nat → Nat) (B_t_trial : Nat → Nat) (B_p2 : Nat → Nat) (B_p2_best : Nat → Nat) (t_racks : Nat → Nat → Int32) (t_sizes : Nat → Int32) (t_trial_n : Int32) (t_trial_cells : Nat → Int32) (p2_named : Int32) (p2_best_n : Int32) (p2_best_cells : Nat → Int32) (p2_firstRow : Nat → Int32) (p2_names : Nat → Int32) (p2_things : Nat → Int32) (p2_twins : Nat → Int32) (x1 : Int32) {K : (Nat → Nat → Int32) → (Nat → Int32) → (Nat → Int32) → Int32 → Int32 → (Nat → Int32) → (Nat → Int32) → (Nat → Int32) → (Nat → Int32) → (Nat → Int32) → Prop}, pX2_fillRow d t_racks t_sizes t_trial_n t_trial_cells p2_named p2_best_n p2_best_cells p2_firstRow p2_names p2_things p2_twins x1 K → Met l yX2_fillRow wsX2_fillRow ({ frames := (24 + d), cells := 0, slots := 0, locals := (560 + d * 23) }) (PcM G Y tF sz (w_X2_fillRow Y h_t h_p2 B_t B_t_racks B_t_trial B_p2 B_p2_best t_racks t_sizes t_trial_n t_trial_cells p2_named p2_best_n p2_best_cells p2_firstRow p2_names p2_things p2_twins) [.ref h_t, .int x1, .ref h_p2]) (va_Qv (fun u : (Nat → Nat → Int32) × (Nat → Int32) × (Nat → Int32) × Int32 × Int32 × (Nat → Int32) × (Nat → Int32) × (Nat → Int32) × (Nat → Int32) × (Nat → Int32) => K u.1 u.2.1 u.2.2.1 u.2.2.2.1 u.2.2.2.2.1 u.2.2.2.2.2.1 u.2.2.2.2.2.2.1 u.2.2.2.2.2.2.2.1 u.2.2.2.2.2.2.2.2.1 u.2.2.2.2.2.2.2.2.2) (fun u t => BM G Y (va_A (w_X2_fillRow Y h_t h_p2 B_t B_t_racks B_t_trial B_p2 B_p2_best t_racks t_sizes t_trial_n t_trial_cells p2_named p2_best_n p2_best_cells p2_firstRow p2_names p2_things p2_twins) sz) (w_X2_fillRow Y h_t h_p2 B_t B_t_racks B_t_trial B_p2 B_p2_best u.1 u.2.1 t_trial_n u.2.2.1 u.2.2.2.1 u.2.2.2.2.1 u.2.2.2.2.2.1 u.2.2.2.2.2.2.1 u.2.2.2.2.2.2.2.1 u.2.2.2.2.2.2.2.2.1 u.2.2.2.2.2.2.2.2.2) t) (va_A (w_X2_fillRow Y h_t h_p2 B_t B_t_racks B_t_trial B_p2 B_p2_best t_racks t_sizes t_trial_n t_trial_cells p2_named p2_best_n p2_best_cells p2_firstRow p2_names p2_things p2_twins) sz)) 0 0 (va_A (w_X2_fillRow Y h_t h_p2 B_t B_t_racks B_t_trial B_p2 B_p2_best t_racks t_sizes t_trial_n t_trial_cells p2_named p2_best_n p2_best_cells p2_firstRow p2_names p2_things p2_twins) sz)) (h : pX2_fillRow (d + 1) t_racks t_sizes t_trial_n t_trial_cells p2_named p2_best_n p2_best_cells p2_firstRow p2_names p2_things p2_twins x1 K) : Met l yX2_fillRow wsX2_fillRow ({ frames := (24 + (d + 1)), cells := 0, slots := 0, locals := (560 + (d + 1) * 23) }) (PcM G Y tF sz (w_X2_fillRow Y h_t h_p2 B_t B_t_racks B_t_trial B_p2 B_p2_best t_racks t_sizes t_trial_n t_trial_cells p2_named p2_best_n p2_best_cells p2_firstRow p2_names p2_things p2_twins) [.ref h_t, .int x1, .ref h_p2]) (va_Qv (fun u : (Nat → Nat → Int32) × (Nat → Int32) × (Nat → Int32) × Int32 × Int32 × (Nat → Int32) × (Nat → Int32) × (Nat → Int32) × (Nat → Int32) × (Nat → Int32) => K u.1 u.2.1 u.2.2.1 u.2.2.2.1 u.2.2.2.2.1 u.2.2.2.2.2.1 u.2.2.2.2.2.2.1 u.2.2.2.2.2.2.2.1 u.2.2.2.2.2.2.2.2.1 u.2.2.2.2.2.2.2.2.2) (fun u t => BM G Y (va_A (w_X2_fillRow Y h_t h_p2 B_t B_t_racks B_t_trial B_p2 B_p2_best t_racks t_sizes t_trial_n t_trial_cells p2_named p2_best_n p2_best_cells p2_firstRow p2_names p2_things p2_twins) sz) (w_X2_fillRow Y h_t h_p2 B_t B_t_racks B_t_trial B_p2 B_p2_best u.1 u.2.1 t_trial_n u.2.2.1 u.2.2.2.1 u.2.2.2.2.1 u.2.2.2.2.2.1 u.2.2.2.2.2.2.1 u.2.2.2.2.2.2.2.1 u.2.2.2.2.2.2.2.2.1 u.2.2.2.2.2.2.2.2.2) t) (va_A (w_X2_fillRow Y h_t h_p2 B_t B_t_racks B_t_trial B_p2 B_p2_best t_racks t_sizes t_trial_n t_trial_cells p2_named p2_best_n p2_best_cells p2_firstRow p2_names p2_things p2_twins) sz)) 0 0 (va_A (w_X2_fillRow Y h_t h_p2 B_t B_t_racks B_t_trial B_p2 B_p2_best t_racks t_sizes t_trial_n t_trial_cells p2_named p2_best_n p2_best_cells p2_firstRow p2_names p2_things p2_twins) sz) := by
  refine Met.ofW (cc := cX2_fillRow) (maxL := 4) (ret := none) (by decide +kernel) rfl ?_
  intro p e s m args below meth c s₁ B hml hv
  obtain ⟨rfl, hsz, hP, hK, hD0, hE⟩ := hv
  have hts := atoms_spec (ws := wsX2_fillRow) B.pre
  have hown : s.vm.findClass RX2 = some m.cls := findClass_of_methodNamed B.named
  have hlocks := B.notSynchronized
  subst hsz
  have hD := hD0.self (sz := s.heap.size)
  exact wk_X2_fillRow h_t h_p2 B_t B_t_racks B_t_trial B_p2 B_p2_best t_racks t_sizes t_trial_n t_trial_cells p2_named p2_best_n p2_best_cells p2_firstRow p2_names p2_things p2_twins x1 (rec := pX2_fillRow d) (fB := (24 + d)) (lB := (560 + d * 23)) (by show _ ≤ _; simp only [headSpec]; omega) (by show _ ≤ _; simp only [headSpec]; omega) (fun sz h_t h_p2 B_t B_t_racks B_t_trial B_p2 B_p2_best t_racks t_sizes t_trial_n t_trial_cells p2_named p2_best_n p2_best_cells p2_firstRow p2_names p2_things p2_twins x1 _ hh => hrec sz h_t h_p2 B_t B_t_racks B_t_trial B_p2 B_p2_best t_racks t_sizes t_trial_n t_trial_cells p2_named p2_best_n p2_best_cells p2_firstRow p2_names p2_things p2_twins x1 hh) B.exec B.bytes hml hown hts hK hE (fun q h => Or.inr h) (by show _ ≤ _; simp only [headSpec]; omega) (by show _ ≤ _; simp only [headSpec]; omega) (fun t_racks t_sizes t_trial_cells p2_named p2_best_n p2_best_cells p2_firstRow p2_names p2_things p2_twins H locs ls pc hP hD hS hk hd => W.vret B.exec B.bytes B.returns (fun t ht hW => ⟨⟨(t_racks, t_sizes, t_trial_cells, p2_named, p2_best_n, p2_best_cells, p2_firstRow, p2_names, p2_things, p2_twins), rfl, hk, by rw [ht]; exact hP, va_K.moved hW.alike hK, hD⟩, hS.F ht⟩) hS.2.2 hd) hP hD h

theorem c_X2_fillRow (d : Nat) (l : Launch) (G : va_G) (Y : Nat → ClassId) (tF sz : Nat) (h_t : Nat) (h_p2 : Nat) (B_t : Nat → Nat) (B_t_racks : Nat → Nat) (B_t_trial : Nat → Nat) (B_p2 : Nat → Nat) (B_p2_best : Nat → Nat) (t_racks : Nat → Nat → Int32) (t_sizes : Nat → Int32) (t_trial_n : Int32) (t_trial_cells : Nat → Int32) (p2_named : Int32) (p2_best_n : Int32) (p2_best_cells : Nat → Int32) (p2_firstRow : Nat → Int32) (p2_names : Nat → Int32) (p2_things : Nat → Int32) (p2_twins : Nat → Int32) (x1 : Int32) {K : (Nat → Nat → Int32) → (Nat → Int32) → (Nat → Int32) → Int32 → Int32 → (Nat → Int32) → (Nat → Int32) → (Nat → Int32) → (Nat → Int32) → (Nat → Int32) → Prop} (h : pX2_fillRow d t_racks t_sizes t_trial_n t_trial_cells p2_named p2_best_n p2_best_cells p2_firstRow p2_names p2_things p2_twins x1 K) : Met l yX2_fillRow wsX2_fillRow ({ frames := (24 + d), cells := 0, slots := 0, locals := (560 + d * 23) }) (PcM G Y tF sz (w_X2_fillRow Y h_t h_p2 B_t B_t_racks B_t_trial B_p2 B_p2_best t_racks t_sizes t_trial_n t_trial_cells p2_named p2_best_n p2_best_cells p2_firstRow p2_names p2_things p2_twins) [.ref h_t, .int x1, .ref h_p2]) (va_Qv (fun u : (Nat → Nat → Int32) × (Nat → Int32) × (Nat → Int32) × Int32 × Int32 × (Nat → Int32) × (Nat → Int32) × (Nat → Int32) × (Nat → Int32) × (Nat → Int32) => K u.1 u.2.1 u.2.2.1 u.2.2.2.1 u.2.2.2.2.1 u.2.2.2.2.2.1 u.2.2.2.2.2.2.1 u.2.2.2.2.2.2.2.1 u.2.2.2.2.2.2.2.2.1 u.2.2.2.2.2.2.2.2.2) (fun u t => BM G Y (va_A (w_X2_fillRow Y h_t h_p2 B_t B_t_racks B_t_trial B_p2 B_p2_best t_racks t_sizes t_trial_n t_trial_cells p2_named p2_best_n p2_best_cells p2_firstRow p2_names p2_things p2_twins) sz) (w_X2_fillRow Y h_t h_p2 B_t B_t_racks B_t_trial B_p2 B_p2_best u.1 u.2.1 t_trial_n u.2.2.1 u.2.2.2.1 u.2.2.2.2.1 u.2.2.2.2.2.1 u.2.2.2.2.2.2.1 u.2.2.2.2.2.2.2.1 u.2.2.2.2.2.2.2.2.1 u.2.2.2.2.2.2.2.2.2) t) (va_A (w_X2_fillRow Y h_t h_p2 B_t B_t_racks B_t_trial B_p2 B_p2_best t_racks t_sizes t_trial_n t_trial_cells p2_named p2_best_n p2_best_cells p2_firstRow p2_names p2_things p2_twins) sz)) 0 0 (va_A (w_X2_fillRow Y h_t h_p2 B_t B_t_racks B_t_trial B_p2 B_p2_best t_racks t_sizes t_trial_n t_trial_cells p2_named p2_best_n p2_best_cells p2_firstRow p2_names p2_things p2_twins) sz) := by
  induction d generalizing sz h_t h_p2 B_t B_t_racks B_t_trial B_p2 B_p2_best t_racks t_sizes t_trial_n t_trial_cells p2_named p2_best_n p2_best_cells p2_firstRow p2_names p2_things p2_twins x1 K with
  | zero => exact h.elim
  | succ d ih => exact cs_X2_fillRow l d G Y tF sz h_t h_p2 B_t B_t_racks B_t_trial B_p2 B_p2_best t_racks t_sizes t_trial_n t_trial_cells p2_named p2_best_n p2_best_cells p2_firstRow p2_names p2_things p2_twins x1 (fun sz h_t h_p2 B_t B_t_racks B_t_trial B_p2 B_p2_best t_racks t_sizes t_trial_n t_trial_cells p2_named p2_best_n p2_best_cells p2_firstRow p2_names p2_things p2_twins x1 _ hh => ih sz h_t h_p2 B_t B_t_racks B_t_trial B_p2 B_p2_best t_racks t_sizes t_trial_n t_trial_cells p2_named p2_best_n p2_best_cells p2_firstRow p2_names p2_things p2_twins x1 hh) h

abbrev w_X2_cell (Y : Nat → ClassId) : va_W := []

set_option maxHeartbeats 4000000 in
set_option maxRecDepth 100000 in
theorem wk_X2_cell {p : Program} {l : Launch} {e : Env} {R : Room} {s : State} {m : MethodId} {args : Array Value} {below : List Frame} {meth : Method} {c : Code} {Q : State → Prop} {G : va_G} {Y : Nat → ClassId} {tF : Nat} {A : Nat → Prop} (x0 : Int32) (x1 : Int32) (x2 : Int32) (x3 : Int32) {K : Int32 → Prop} (hx : p.tables.exec = Jvm.exec) (hb : c.code = cX2_cell) (hml : c.maxLocals = 4) (hown : s.vm.findClass RX2 = some m.cls) (hts : ∀ w ∈ wsX2_cell, w.before args s = true) (hK : va_K G vwCl (tyL Y) s) (hE : Ev A tF s) (hA : ∀ q, s.heap.size ≤ q → A q) (hRf : 0 ≤ R.frames) (hRl : 0 ≤ R.locals) (hret : ∀ (r : Int32)  (H : Heap) (locs : List Loc) (ls : Array Slot) (pc : Nat), va_P G vwCl (w_X2_cell Y) H → va_D A (w_X2_cell Y) → va_S A s.heap H locs → K r → decode cX2_cell pc = .ok (.ireturn, 1) → W p l e R s m args below meth c H locs 0 0 Q (F0 m pc ls [.int r])) (hP : va_P G vwCl (w_X2_cell Y) s.heap) (hD : va_D A (w_X2_cell Y)) (h : pX2_cell x0 x1 x2 x3 K) : W p l e R s m args below meth c s.heap [] 0 0 Q (entryFrame m ([.int x0, .int x1, .int x2, .int x3] : List Value).toArray 4) := by
  have hl := lv_entry ([.int x0, .int x1, .int x2, .int x3]) (n := 4) (Nat.le_of_ble_eq_true rfl)
  rw [lg_entry_eq]
  generalize (lg_sl ([.int x0, .int x1, .int x2, .int x3]) ++ List.replicate (4 - (lg_sl ([.int x0, .int x1, .int x2, .int x3])).length) Slot.unset).toArray = ls at hl ⊢
  have hl : lv_has ls 4 [(0, .int x0), (1, .int x1), (2, .int x2), (3, .int x3)] := hl
  generalize hH0 : s.heap = H at hP ⊢
  have hS : va_S A s.heap H [] := by rw [← hH0]; exact va_S.rf
  clear hH0
  generalize ([] : List Loc) = locs at hS ⊢
  refine lv_iload_n hx hb dX2_cell_0 rfl (lv_at hl 1 rfl) ?_
  refine lv_iconst (v := 2) hx hb dX2_cell_1 (by decide) ?_
  refine lv_iload_n hx hb dX2_cell_2 rfl (lv_at hl 2 rfl) ?_
  refine lv_iload_n hx hb dX2_cell_3 rfl (lv_at hl 0 rfl) ?_
  refine lv_imul hx hb dX2_cell_4 ?_
  refine lv_iload_n hx hb dX2_cell_5 rfl (lv_at hl 3 rfl) ?_
  refine lv_iadd hx hb dX2_cell_6 ?_
  refine lv_imul hx hb dX2_cell_7 ?_
  refine lv_iushr hx hb dX2_cell_8 rfl ?_
  refine lv_iconst (v := 3) hx hb dX2_cell_9 (by decide) ?_
  refine lv_iand hx hb dX2_cell_10 ?_
  exact hret ((((Int32.toUInt32 x1) >>> ((Int32.toUInt32 ((2 : Int32) * ((x2 * x0) + x3))) &&& Int32.toUInt32 31)).toInt32) &&& (3 : Int32))  H locs ls _ hP hD hS h dX2_cell_11

set_option maxHeartbeats 4000000 in
set_option maxRecDepth 100000 in
theorem c_X2_cell (l : Launch) (G : va_G) (Y : Nat → ClassId) (tF sz : Nat) (x0 : Int32) (x1 : Int32) (x2 : Int32) (x3 : Int32) {K : Int32 → Prop} (h : pX2_cell x0 x1 x2 x3 K) : Met l yX2_cell wsX2_cell ({ frames := 0, cells := 0, slots := 0, locals := 0 }) (PcM G Y tF sz (w_X2_cell Y) [.int x0, .int x1, .int x2, .int x3]) (va_Qi (fun (r : Int32) (u : Unit) => K r ) (fun u t => BM G Y (va_A (w_X2_cell Y) sz) (w_X2_cell Y) t) (va_A (w_X2_cell Y) sz)) 0 0 (va_A (w_X2_cell Y) sz) := by
  refine Met.ofW (cc := cX2_cell) (maxL := 4) (ret := (some .int)) (by decide +kernel) rfl ?_
  intro p e s m args below meth c s₁ B hml hv
  obtain ⟨rfl, hsz, hP, hK, hD0, hE⟩ := hv
  have hts := atoms_spec (ws := wsX2_cell) B.pre
  have hown : s.vm.findClass RX2 = some m.cls := findClass_of_methodNamed B.named
  have hlocks := B.notSynchronized
  subst hsz
  have hD := hD0.self (sz := s.heap.size)
  exact wk_X2_cell x0 x1 x2 x3 B.exec B.bytes hml hown hts hK hE (fun q h => Or.inr h) (Nat.le_refl _) (Nat.le_refl _) (fun r  H locs ls pc hP hD hS hk hd => W.iret (v := r) B.exec B.bytes B.returns (fun t ht hW => ⟨⟨r, (), rfl, hk, by rw [ht]; exact hP, va_K.moved hW.alike hK, hD⟩, hS.F ht⟩) hS.2.2 hd) hP hD h

abbrev w_X2_isQuandle (Y : Nat → ClassId) : va_W := []

set_option maxHeartbeats 4000000 in
set_option maxRecDepth 100000 in
theorem wk_X2_isQuandle {p : Program} {l : Launch} {e : Env} {R : Room} {s : State} {m : MethodId} {args : Array Value} {below : List Frame} {meth : Method} {c : Code} {Q : State → Prop} {G : va_G} {Y : Nat → ClassId} {tF : Nat} {A : Nat → Prop} (x0 : Int32) (x1 : Int32) {K : Int32 → Prop} (hx : p.tables.exec = Jvm.exec) (hb : c.code = cX2_isQuandle) (hml : c.maxLocals = 3) (hown : s.vm.findClass RX2 = some m.cls) (hts : ∀ w ∈ wsX2_isQuandle, w.before args s = true) (hK : va_K G vwCl (tyL Y) s) (hE : Ev A tF s) (hA : ∀ q, s.heap.size ≤ q → A q) (hRf : 1 ≤ R.frames) (hRl : 23 ≤ R.locals) (hret : ∀ (r : Int32)  (H : Heap) (locs : List Loc) (ls : Array Slot) (pc : Nat), va_P G vwCl (w_X2_isQuandle Y) H → va_D A (w_X2_isQuandle Y) → va_S A s.heap H locs → zb r → K r → decode cX2_isQuandle pc = .ok (.ireturn, 1) → W p l e R s m args below meth c H locs 0 0 Q (F0 m pc ls [.int r])) (hP : va_P G vwCl (w_X2_isQuandle Y) s.heap) (hD : va_D A (w_X2_isQuandle Y)) (h : pX2_isQuandle x0 x1 K) : W p l e R s m args below meth c s.heap [] 0 0 Q (entryFrame m ([.int x0, .int x1] : List Value).toArray 3) := by
  have hl := lv_entry ([.int x0, .int x1]) (n := 3) (Nat.le_of_ble_eq_true rfl)
  rw [lg_entry_eq]
  generalize (lg_sl ([.int x0, .int x1]) ++ List.replicate (3 - (lg_sl ([.int x0, .int x1])).length) Slot.unset).toArray = ls at hl ⊢
  have hl : lv_has ls 3 [(0, .int x0), (1, .int x1)] := hl
  generalize hH0 : s.heap = H at hP ⊢
  have hS : va_S A s.heap H [] := by rw [← hH0]; exact va_S.rf
  clear hH0
  generalize ([] : List Loc) = locs at hS ⊢
  refine lv_iconst (v := 0) hx hb dX2_isQuandle_0 (by decide) ?_
  refine lv_istore_n (lv' := [(2, .int (0 : Int32)), (0, .int x0), (1, .int x1)]) hx hb dX2_isQuandle_1 rfl hl (by decide) rfl (fun ls hl => ?_)
  obtain ⟨I2, m2, hI2, hB2⟩ := h
  have L2 : ∀ (x0 : Int32) (x1 : Int32) (I2 : Int32 → Prop) (m2 : Int32 → Nat), (∀ (x2 : Int32), I2 x2 → pX2_isQuandle_2 K x0 x1 x2 (fun x2' => I2 x2' ∧ m2 x2' < m2 x2)) → ∀ (n : Nat) (x2 : Int32) (H : Heap) (locs : List Loc) (ls : Array Slot), I2 x2 → m2 x2 < n → va_P G vwCl (w_X2_isQuandle Y) H → va_D A (w_X2_isQuandle Y) → va_S A s.heap H locs → lv_has ls 3 [(0, .int x0), (1, .int x1), (2, .int x2)] → W p l e R s m args below meth c H locs 0 0 Q (F0 m 2 ls []) := by
    intro x0 x1 I2 m2 hB2 n
    induction n with
    | zero => intro x2 H locs ls _ hm; exact absurd hm (Nat.not_lt_zero _)
    | succ n ih =>
      intro x2 H locs ls hI hm hP hD hS hl
      obtain ⟨R2, h, rec2⟩ : ∃ R2 : Int32 → Prop, pX2_isQuandle_2 K x0 x1 x2 R2 ∧ ∀ (x2 : Int32) (H : Heap) (locs : List Loc) (ls : Array Slot), R2 x2 → va_P G vwCl (w_X2_isQuandle Y) H → va_D A (w_X2_isQuandle Y) → va_S A s.heap H locs → lv_has ls 3 [(0, .int x0), (1, .int x1), (2, .int x2)] → W p l e R s m args below meth c H locs 0 0 Q (F0 m 2 ls []) := ⟨_, hB2 x2 hI, fun x2 H locs ls hh hP hD hS hl => ih x2 H locs ls hh.1 (Nat.lt_of_lt_of_le hh.2 (Nat.le_of_lt_succ hm)) hP hD hS hl⟩
      refine lv_iload_n hx hb dX2_isQuandle_2 rfl (lv_at hl 2 rfl) ?_
      refine lv_iload_n hx hb dX2_isQuandle_3 rfl (lv_at hl 0 rfl) ?_
      obtain ⟨ht, hf⟩ := h
      refine lv_icmp_ge (tgt := 26) hx hb dX2_isQuandle_4 (by decide) (fun c9 => ?_) (fun c9 => ?_)
      · have h := ht c9
        refine lv_iconst (v := 1) hx hb dX2_isQuandle_26 (by decide) ?_
        obtain ⟨hz, h⟩ := h
        exact hret (1 : Int32)  H locs ls _ hP hD hS hz h dX2_isQuandle_27
      · have h := hf c9
        refine lv_iload_n hx hb dX2_isQuandle_7 rfl (lv_at hl 0 rfl) ?_
        refine lv_iload_n hx hb dX2_isQuandle_8 rfl (lv_at hl 1 rfl) ?_
        refine lv_iload_n hx hb dX2_isQuandle_9 rfl (lv_at hl 2 rfl) ?_
        refine lv_iload_n hx hb dX2_isQuandle_10 rfl (lv_at hl 2 rfl) ?_
        refine mc_iS ⟨hx, hb, hml, hown, hts⟩ hK hE hA hP hD hS (c_X2_cell l G Y tF H.size x0 x1 x2 x2 h) (va_cwS 4 hts gX2_isQuandle_X2_cell rfl rfl rfl (by decide +kernel) ⟨Nat.le_trans (by decide) hRf, Nat.le_trans (by decide) hRl⟩) (fun u => (w_X2_isQuandle Y)) [] [] [] rfl rfl rfl rfl (by decide) (fun _ => rfl) rfl rfl hl.1 rfl (Nat.le_of_ble_eq_true rfl) dX2_isQuandle_11 (fun r11 u H locs h hP hD hS => ?_)
        try dsimp only at h
        have hP : va_P G vwCl (w_X2_isQuandle Y) H := hP
        have hD : va_D A (w_X2_isQuandle Y) := hD
        refine lv_iload_n hx hb dX2_isQuandle_14 rfl (lv_at hl 2 rfl) ?_
        obtain ⟨ht, hf⟩ := h
        refine lv_icmp_eq (tgt := 20) hx hb dX2_isQuandle_15 (by decide) (fun c9 => ?_) (fun c9 => ?_)
        · have h := ht c9
          refine lv_iinc (v := (x2 + 1)) (lv' := [(2, .int (x2 + 1)), (0, .int x0), (1, .int x1)]) hx hb dX2_isQuandle_20 hl (k := 2) rfl rfl (by decide) rfl (fun ls hl => ?_)
          refine lv_goto (tgt := 2) hx hb dX2_isQuandle_23 (by decide) ?_
          exact rec2 (x2 + 1) H locs ls h hP hD hS (lv_sub hl [1, 2, 0] rfl)
        · have h := hf c9
          refine lv_iconst (v := 0) hx hb dX2_isQuandle_18 (by decide) ?_
          obtain ⟨hz, h⟩ := h
          exact hret (0 : Int32)  H locs ls _ hP hD hS hz h dX2_isQuandle_19
  exact L2 x0 x1 I2 m2 hB2 _ (0 : Int32) H locs ls hI2 (Nat.lt_succ_self _) hP hD hS (lv_sub hl [1, 2, 0] rfl)

set_option maxHeartbeats 4000000 in
set_option maxRecDepth 100000 in
theorem c_X2_isQuandle (l : Launch) (G : va_G) (Y : Nat → ClassId) (tF sz : Nat) (x0 : Int32) (x1 : Int32) {K : Int32 → Prop} (h : pX2_isQuandle x0 x1 K) : Met l yX2_isQuandle wsX2_isQuandle ({ frames := 1, cells := 0, slots := 0, locals := 23 }) (PcM G Y tF sz (w_X2_isQuandle Y) [.int x0, .int x1]) (va_Qi (fun (r : Int32) (u : Unit) => K r ) (fun u t => BM G Y (va_A (w_X2_isQuandle Y) sz) (w_X2_isQuandle Y) t) (va_A (w_X2_isQuandle Y) sz)) 0 0 (va_A (w_X2_isQuandle Y) sz) := by
  refine Met.ofW (cc := cX2_isQuandle) (maxL := 3) (ret := (some .boolean)) (by decide +kernel) rfl ?_
  intro p e s m args below meth c s₁ B hml hv
  obtain ⟨rfl, hsz, hP, hK, hD0, hE⟩ := hv
  have hts := atoms_spec (ws := wsX2_isQuandle) B.pre
  have hown : s.vm.findClass RX2 = some m.cls := findClass_of_methodNamed B.named
  have hlocks := B.notSynchronized
  subst hsz
  have hD := hD0.self (sz := s.heap.size)
  exact wk_X2_isQuandle x0 x1 B.exec B.bytes hml hown hts hK hE (fun q h => Or.inr h) (Nat.le_refl _) (Nat.le_refl _) (fun r  H locs ls pc hP hD hS hz hk hd => W.zret (v := r) B.exec B.bytes B.returns hz.n (fun t ht hW => ⟨⟨r, (), rfl, hk, by rw [ht]; exact hP, va_K.moved hW.alike hK, hD⟩, hS.F ht⟩) hS.2.2 hd) hP hD h

abbrev w_X2_sizeOf (Y : Nat → ClassId) (h_t : Nat) (h_p3 : Nat) (B_t : Nat → Nat) (B_t_racks : Nat → Nat) (B_t_trial : Nat → Nat) (B_p3 : Nat → Nat) (B_p3_best : Nat → Nat) (t_racks : Nat → Nat → Int32) (t_sizes : Nat → Int32) (t_trial_n : Int32) (t_trial_cells : Nat → Int32) (p3_named : Int32) (p3_best_n : Int32) (p3_best_cells : Nat → Int32) (p3_firstRow : Nat → Int32) (p3_names : Nat → Int32) (p3_things : Nat → Int32) (p3_twins : Nat → Int32) : va_W := [(h_t, .inr (2, [.ref (B_t 0), .ref (B_t 1), .ref (B_t 2)])), ((B_t 0), .inl (Y 3, 5, .inr (.inr (.inr (.inr (fun i => if i < 5 then some (B_t_racks i) else none)))))), ((B_t_racks 0), .inl (Y 0, 19, .inl (t_racks 0))), ((B_t_racks 1), .inl (Y 0, 19, .inl (t_racks 1))), ((B_t_racks 2), .inl (Y 0, 19, .inl (t_racks 2))), ((B_t_racks 3), .inl (Y 0, 19, .inl (t_racks 3))), ((B_t_racks 4), .inl (Y 0, 19, .inl (t_racks 4))), ((B_t 1), .inl (Y 0, 5, .inl t_sizes)), ((B_t 2), .inr (6, [.ref (B_t_trial 0), .int t_trial_n])), ((B_t_trial 0), .inl (Y 0, 64, .inl t_trial_cells)), (h_p3, .inr (4, [.ref (B_p3 0), .ref (B_p3 1), .ref (B_p3 2), .ref (B_p3 3), .ref (B_p3 4), .int p3_named])), ((B_p3 0), .inr (6, [.ref (B_p3_best 0), .int p3_best_n])), ((B_p3_best 0), .inl (Y 0, 64, .inl p3_best_cells)), ((B_p3 4), .inl (Y 0, 8, .inl p3_firstRow)), ((B_p3 2), .inl (Y 0, 8, .inl p3_names)), ((B_p3 1), .inl (Y 0, 8, .inl p3_things)), ((B_p3 3), .inl (Y 0, 8, .inl p3_twins))]

set_option maxHeartbeats 4000000 in
set_option maxRecDepth 100000 in
theorem wk_X2_sizeOf {p : Program} {l : Launch} {e : Env} {R : Room} {s : State} {m : MethodId} {args : Array Value} {below : List Frame} {meth : Method} {c : Code} {Q : State → Prop} {G : va_G} {Y : Nat → ClassId} {tF : Nat} {A : Nat → Prop} (h_t : Nat) (h_p3 : Nat) (B_t : Nat → Nat) (B_t_racks : Nat → Nat) (B_t_trial : Nat → Nat) (B_p3 : Nat → Nat) (B_p3_best : Nat → Nat) (t_racks : Nat → Nat → Int32) (t_sizes : Nat → Int32) (t_trial_n : Int32) (t_trial_cells : Nat → Int32) (p3_named : Int32) (p3_best_n : Int32) (p3_best_cells : Nat → Int32) (p3_firstRow : Nat → Int32) (p3_names : Nat → Int32) (p3_things : Nat → Int32) (p3_twins : Nat → Int32) (x1 : Int32) (x2 : Int32) {K : Int32 → (Nat → Nat → Int32) → (Nat → Int32) → Int32 → (Nat → Int32) → Int32 → Int32 → (Nat → Int32) → (Nat → Int32) → (Nat → Int32) → (Nat → Int32) → (Nat → Int32) → Prop} (hx : p.tables.exec = Jvm.exec) (hb : c.code = cX2_sizeOf) (hml : c.maxLocals = 6) (hown : s.vm.findClass RX2 = some m.cls) (hts : ∀ w ∈ wsX2_sizeOf, w.before args s = true) (hK : va_K G vwCl (tyL Y) s) (hE : Ev A tF s) (hA : ∀ q, s.heap.size ≤ q → A q) (hRf : 31 ≤ R.frames) (hRl : 721 ≤ R.locals) (hret : ∀ (r : Int32) (t_racks : Nat → Nat → Int32) (t_sizes : Nat → Int32) (t_trial_n : Int32) (t_trial_cells : Nat → Int32) (p3_named : Int32) (p3_best_n : Int32) (p3_best_cells : Nat → Int32) (p3_firstRow : Nat → Int32) (p3_names : Nat → Int32) (p3_things : Nat → Int32) (p3_twins : Nat → Int32) (H : Heap) (locs : List Loc) (ls : Array Slot) (pc : Nat), va_P G vwCl (w_X2_sizeOf Y h_t h_p3 B_t B_t_racks B_t_trial B_p3 B_p3_best t_racks t_sizes t_trial_n t_trial_cells p3_named p3_best_n p3_best_cells p3_firstRow p3_names p3_things p3_twins) H → va_D A (w_X2_sizeOf Y h_t h_p3 B_t B_t_racks B_t_trial B_p3 B_p3_best t_racks t_sizes t_trial_n t_trial_cells p3_named p3_best_n p3_best_cells p3_firstRow p3_names p3_things p3_twins) → va_S A s.heap H locs → K r t_racks t_sizes t_trial_n t_trial_cells p3_named p3_best_n p3_best_cells p3_firstRow p3_names p3_things p3_twins → decode cX2_sizeOf pc = .ok (.ireturn, 1) → W p l e R s m args below meth c H locs 0 0 Q (F0 m pc ls [.int r])) (hP : va_P G vwCl (w_X2_sizeOf Y h_t h_p3 B_t B_t_racks B_t_trial B_p3 B_p3_best t_racks t_sizes t_trial_n t_trial_cells p3_named p3_best_n p3_best_cells p3_firstRow p3_names p3_things p3_twins) s.heap) (hD : va_D A (w_X2_sizeOf Y h_t h_p3 B_t B_t_racks B_t_trial B_p3 B_p3_best t_racks t_sizes t_trial_n t_trial_cells p3_named p3_best_n p3_best_cells p3_firstRow p3_names p3_things p3_twins)) (h : pX2_sizeOf t_racks t_sizes t_trial_n t_trial_cells p3_named p3_best_n p3_best_cells p3_firstRow p3_names p3_things p3_twins x1 x2 K) : W p l e R s m args below meth c s.heap [] 0 0 Q (entryFrame m ([.ref h_t, .int x1, .int x2, .ref h_p3] : List Value).toArray 6) := by
  have inX2 : ∀ w ∈ u_ws RX2 TX2 3, w ∈ wsX2_sizeOf := by decide +kernel
  have inX7 : ∀ w ∈ u_ws RX7 TX7 2, w ∈ wsX2_sizeOf := by decide +kernel
  have hf13 := hts (.fieldLink RX2 13 "RackBench$Lister" "racks" "[[I") (by decide +kernel)
  have hf16 := hts (.fieldLink RX2 16 "RackBench$Lister" "sizes" "[I") (by decide +kernel)
  have hf25 := hts (.fieldLink RX2 25 "RackBench$Lister" "trial" "LRackBench$Table;") (by decide +kernel)
  have hl := lv_entry ([.ref h_t, .int x1, .int x2, .ref h_p3]) (n := 6) (Nat.le_of_ble_eq_true rfl)
  rw [lg_entry_eq]
  generalize (lg_sl ([.ref h_t, .int x1, .int x2, .ref h_p3]) ++ List.replicate (6 - (lg_sl ([.ref h_t, .int x1, .int x2, .ref h_p3])).length) Slot.unset).toArray = ls at hl ⊢
  have hl : lv_has ls 6 [(0, .ref h_t), (1, .int x1), (2, .int x2), (3, .ref h_p3)] := hl
  generalize hH0 : s.heap = H at hP ⊢
  have hS : va_S A s.heap H [] := by rw [← hH0]; exact va_S.rf
  clear hH0
  generalize ([] : List Loc) = locs at hS ⊢
  have J23 : ∀ (x1 : Int32) (x2 : Int32) (t_racks : Nat → Nat → Int32) (t_sizes : Nat → Int32) (t_trial_n : Int32) (t_trial_cells : Nat → Int32) (p3_named : Int32) (p3_best_n : Int32) (p3_best_cells : Nat → Int32) (p3_firstRow : Nat → Int32) (p3_names : Nat → Int32) (p3_things : Nat → Int32) (p3_twins : Nat → Int32) (H : Heap) (locs : List Loc) (ls : Array Slot), pX2_sizeOf_23 K x1 x2 t_racks t_sizes t_trial_n t_trial_cells p3_named p3_best_n p3_best_cells p3_firstRow p3_names p3_things p3_twins → va_P G vwCl (w_X2_sizeOf Y h_t h_p3 B_t B_t_racks B_t_trial B_p3 B_p3_best t_racks t_sizes t_trial_n t_trial_cells p3_named p3_best_n p3_best_cells p3_firstRow p3_names p3_things p3_twins) H → va_D A (w_X2_sizeOf Y h_t h_p3 B_t B_t_racks B_t_trial B_p3 B_p3_best t_racks t_sizes t_trial_n t_trial_cells p3_named p3_best_n p3_best_cells p3_firstRow p3_names p3_things p3_twins) → va_S A s.heap H locs → lv_has ls 6 [(0, .ref h_t), (1, .int x1), (2, .int x2)] → W p l e R s m args below meth c H locs 0 0 Q (F0 m 23 ls []) := by
    intro x1 x2 t_racks t_sizes t_trial_n t_trial_cells p3_named p3_best_n p3_best_cells p3_firstRow p3_names p3_things p3_twins H locs ls h hP hD hS hl
    refine lv_iconst (v := 0) hx hb dX2_sizeOf_23 (by decide) ?_
    refine lv_istore (lv' := [(4, .int (0 : Int32)), (0, .ref h_t), (1, .int x1), (2, .int x2)]) hx hb dX2_sizeOf_24 hl (by decide) rfl (fun ls hl => ?_)
    refine lv_iconst (v := 0) hx hb dX2_sizeOf_26 (by decide) ?_
    refine lv_istore (lv' := [(5, .int (0 : Int32)), (4, .int (0 : Int32)), (0, .ref h_t), (1, .int x1), (2, .int x2)]) hx hb dX2_sizeOf_27 hl (by decide) rfl (fun ls hl => ?_)
    obtain ⟨I29, m29, hI29, hB29⟩ := h
    have L29 : ∀ (x1 : Int32) (x2 : Int32) (t_racks : Nat → Nat → Int32) (t_sizes : Nat → Int32) (t_trial_n : Int32) (t_trial_cells : Nat → Int32) (p3_named : Int32) (p3_best_n : Int32) (p3_best_cells : Nat → Int32) (p3_firstRow : Nat → Int32) (p3_names : Nat → Int32) (p3_things : Nat → Int32) (p3_twins : Nat → Int32) (I29 : Int32 → Int32 → Prop) (m29 : Int32 → Int32 → Nat), (∀ (x4 : Int32) (x5 : Int32), I29 x4 x5 → pX2_sizeOf_29 K x1 x2 t_racks t_sizes t_trial_n t_trial_cells p3_named p3_best_n p3_best_cells p3_firstRow p3_names p3_things p3_twins x4 x5 (fun x4' x5' => I29 x4' x5' ∧ m29 x4' x5' < m29 x4 x5)) → ∀ (n : Nat) (x4 : Int32) (x5 : Int32) (H : Heap) (locs : List Loc) (ls : Array Slot), I29 x4 x5 → m29 x4 x5 < n → va_P G vwCl (w_X2_sizeOf Y h_t h_p3 B_t B_t_racks B_t_trial B_p3 B_p3_best t_racks t_sizes t_trial_n t_trial_cells p3_named p3_best_n p3_best_cells p3_firstRow p3_names p3_things p3_twins) H → va_D A (w_X2_sizeOf Y h_t h_p3 B_t B_t_racks B_t_trial B_p3 B_p3_best t_racks t_sizes t_trial_n t_trial_cells p3_named p3_best_n p3_best_cells p3_firstRow p3_names p3_things p3_twins) → va_S A s.heap H locs → lv_has ls 6 [(0, .ref h_t), (1, .int x1), (2, .int x2), (4, .int x4), (5, .int x5)] → W p l e R s m args below meth c H locs 0 0 Q (F0 m 29 ls []) := by
      intro x1 x2 t_racks t_sizes t_trial_n t_trial_cells p3_named p3_best_n p3_best_cells p3_firstRow p3_names p3_things p3_twins I29 m29 hB29 n
      induction n with
      | zero => intro x4 x5 H locs ls _ hm; exact absurd hm (Nat.not_lt_zero _)
      | succ n ih =>
        intro x4 x5 H locs ls hI hm hP hD hS hl
        obtain ⟨R29, h, rec29⟩ : ∃ R29 : Int32 → Int32 → Prop, pX2_sizeOf_29 K x1 x2 t_racks t_sizes t_trial_n t_trial_cells p3_named p3_best_n p3_best_cells p3_firstRow p3_names p3_things p3_twins x4 x5 R29 ∧ ∀ (x4 : Int32) (x5 : Int32) (H : Heap) (locs : List Loc) (ls : Array Slot), R29 x4 x5 → va_P G vwCl (w_X2_sizeOf Y h_t h_p3 B_t B_t_racks B_t_trial B_p3 B_p3_best t_racks t_sizes t_trial_n t_trial_cells p3_named p3_best_n p3_best_cells p3_firstRow p3_names p3_things p3_twins) H → va_D A (w_X2_sizeOf Y h_t h_p3 B_t B_t_racks B_t_trial B_p3 B_p3_best t_racks t_sizes t_trial_n t_trial_cells p3_named p3_best_n p3_best_cells p3_firstRow p3_names p3_things p3_twins) → va_S A s.heap H locs → lv_has ls 6 [(0, .ref h_t), (1, .int x1), (2, .int x2), (4, .int x4), (5, .int x5)] → W p l e R s m args below meth c H locs 0 0 Q (F0 m 29 ls []) := ⟨_, hB29 x4 x5 hI, fun x4 x5 H locs ls hh hP hD hS hl => ih x4 x5 H locs ls hh.1 (Nat.lt_of_lt_of_le hh.2 (Nat.le_of_lt_succ hm)) hP hD hS hl⟩
        have J60 : ∀ (x4 : Int32) (x5 : Int32) (H : Heap) (locs : List Loc) (ls : Array Slot), pX2_sizeOf_60 R29 K x1 x2 t_racks t_sizes t_trial_n t_trial_cells p3_named p3_best_n p3_best_cells p3_firstRow p3_names p3_things p3_twins x4 x5 → va_P G vwCl (w_X2_sizeOf Y h_t h_p3 B_t B_t_racks B_t_trial B_p3 B_p3_best t_racks t_sizes t_trial_n t_trial_cells p3_named p3_best_n p3_best_cells p3_firstRow p3_names p3_things p3_twins) H → va_D A (w_X2_sizeOf Y h_t h_p3 B_t B_t_racks B_t_trial B_p3 B_p3_best t_racks t_sizes t_trial_n t_trial_cells p3_named p3_best_n p3_best_cells p3_firstRow p3_names p3_things p3_twins) → va_S A s.heap H locs → lv_has ls 6 [(0, .ref h_t), (1, .int x1), (2, .int x2), (4, .int x4), (5, .int x5)] → W p l e R s m args below meth c H locs 0 0 Q (F0 m 60 ls []) := by
          intro x4 x5 H locs ls h hP hD hS hl
          refine lv_iinc (v := (x4 + 1)) (lv' := [(4, .int (x4 + 1)), (0, .ref h_t), (1, .int x1), (2, .int x2), (5, .int x5)]) hx hb dX2_sizeOf_60 hl (k := 3) rfl rfl (by decide) rfl (fun ls hl => ?_)
          refine lv_iinc (v := (x5 + 1)) (lv' := [(5, .int (x5 + 1)), (4, .int (x4 + 1)), (0, .ref h_t), (1, .int x1), (2, .int x2)]) hx hb dX2_sizeOf_63 hl (k := 4) rfl rfl (by decide) rfl (fun ls hl => ?_)
          refine lv_goto (tgt := 29) hx hb dX2_sizeOf_66 (by decide) ?_
          exact rec29 (x4 + 1) (x5 + 1) H locs ls h hP hD hS (lv_sub hl [2, 3, 4, 1, 0] rfl)
        refine lv_iload hx hb dX2_sizeOf_29 (lv_at hl 4 rfl) ?_
        refine lv_aload_n hx hb dX2_sizeOf_31 rfl (lv_at hl 0 rfl) ?_
        refine va_get (D := G) (ci := 2) (v := .ref (B_t 1)) (C := RX2) (T := TX2) (N := 3) hx hb hts inX2 hown hK hP 0 rfl rfl 1 (by decide) hf16 (fun _ h9 => h9) rfl dX2_sizeOf_32 ?_
        refine lv_iload_n hx hb dX2_sizeOf_35 rfl (lv_at hl 1 rfl) ?_
        obtain ⟨hin, h⟩ := h
        refine va_iald hx hb hK hP 7 0 rfl rfl hin dX2_sizeOf_36 ?_
        obtain ⟨ht, hf⟩ := h
        refine lv_icmp_ge (tgt := 69) hx hb dX2_sizeOf_37 (by decide) (fun c9 => ?_) (fun c9 => ?_)
        · have h := ht c9
          refine lv_iload hx hb dX2_sizeOf_69 (lv_at hl 3 rfl) ?_
          exact hret x4 t_racks t_sizes t_trial_n t_trial_cells p3_named p3_best_n p3_best_cells p3_firstRow p3_names p3_things p3_twins H locs ls _ hP hD hS h dX2_sizeOf_71
        · have h := hf c9
          refine lv_iload_n hx hb dX2_sizeOf_40 rfl (lv_at hl 2 rfl) ?_
          obtain ⟨ht, hf⟩ := h
          refine lv_if_eq (tgt := 60) hx hb dX2_sizeOf_41 (by decide) (fun c9 => ?_) (fun c9 => ?_)
          · have h := ht c9
            exact J60 x4 x5 H locs ls h hP hD hS (lv_sub hl [0, 1, 2, 3, 4] rfl)
          · have h := hf c9
            refine lv_iload_n hx hb dX2_sizeOf_44 rfl (lv_at hl 1 rfl) ?_
            refine lv_aload_n hx hb dX2_sizeOf_45 rfl (lv_at hl 0 rfl) ?_
            refine va_get (D := G) (ci := 2) (v := .ref (B_t 0)) (C := RX2) (T := TX2) (N := 3) hx hb hts inX2 hown hK hP 0 rfl rfl 0 (by decide) hf13 (fun _ h9 => h9) rfl dX2_sizeOf_46 ?_
            refine lv_iload_n hx hb dX2_sizeOf_49 rfl (lv_at hl 1 rfl) ?_
            obtain ⟨hin, h⟩ := h
            refine va_aldqA hx hb hK hP 1 3 rfl rfl hin dX2_sizeOf_50 ?_
            obtain ⟨j9, hj9, e9⟩ := vp_in_of hin (by decide)
            have e8 : Int32.toNatClampNeg x1 = j9 := by rw [e9]; exact nI_clamp (by omega)
            simp only [e8]
            have e70 : t_racks (Int32.toNatClampNeg x1) = t_racks j9 := by rw [e8]
            have e60 : ∀ v9, va_up t_racks (Int32.toNatClampNeg x1) v9 = va_up t_racks j9 v9 := by intro v9; rw [e8]
            try simp only [e70, e60] at h
            clear e70 e60
            clear hin e9
            rcases (show j9 = 0 ∨ j9 = 1 ∨ j9 = 2 ∨ j9 = 3 ∨ j9 = 4 by omega) with rfl | rfl | rfl | rfl | rfl
            · clear hj9
              refine W.eq (g2 := F0 m 51 ls [.ref (B_t_racks 0), .int x1]) rfl ?_
              refine lv_iload hx hb dX2_sizeOf_51 (lv_at hl 4 rfl) ?_
              obtain ⟨hin, h⟩ := h
              refine va_iald hx hb hK hP 2 0 rfl rfl hin dX2_sizeOf_53 ?_
              refine mc_iS ⟨hx, hb, hml, hown, hts⟩ hK hE hA hP hD hS (c_X2_isQuandle l G Y tF H.size x1 ((t_racks 0) (Int32.toNatClampNeg x5)) h) (va_cwS 2 hts gX2_sizeOf_X2_isQuandle rfl rfl rfl (by decide +kernel) ⟨Nat.le_trans (by decide) hRf, Nat.le_trans (by decide) hRl⟩) (fun u => (w_X2_sizeOf Y h_t h_p3 B_t B_t_racks B_t_trial B_p3 B_p3_best t_racks t_sizes t_trial_n t_trial_cells p3_named p3_best_n p3_best_cells p3_firstRow p3_names p3_things p3_twins)) [] [0, 1, 2, 3, 4, 5, 6, 7, 8, 9, 10, 11, 12, 13, 14, 15, 16] [0, 1, 2, 3, 4, 5, 6, 7, 8, 9, 10, 11, 12, 13, 14, 15, 16] rfl rfl rfl rfl (by decide) (fun _ => rfl) rfl rfl hl.1 rfl (Nat.le_of_ble_eq_true rfl) dX2_sizeOf_54 (fun r54 u H locs h hP hD hS => ?_)
              try dsimp only at h
              have hP : va_P G vwCl (w_X2_sizeOf Y h_t h_p3 B_t B_t_racks B_t_trial B_p3 B_p3_best t_racks t_sizes t_trial_n t_trial_cells p3_named p3_best_n p3_best_cells p3_firstRow p3_names p3_things p3_twins) H := hP
              have hD : va_D A (w_X2_sizeOf Y h_t h_p3 B_t B_t_racks B_t_trial B_p3 B_p3_best t_racks t_sizes t_trial_n t_trial_cells p3_named p3_best_n p3_best_cells p3_firstRow p3_names p3_things p3_twins) := hD
              obtain ⟨ht, hf⟩ := h
              refine lv_if_eq (tgt := 63) hx hb dX2_sizeOf_57 (by decide) (fun c9 => ?_) (fun c9 => ?_)
              · have h := ht c9
                refine lv_iinc (v := (x5 + 1)) (lv' := [(5, .int (x5 + 1)), (0, .ref h_t), (1, .int x1), (2, .int x2), (4, .int x4)]) hx hb dX2_sizeOf_63 hl (k := 4) rfl rfl (by decide) rfl (fun ls hl => ?_)
                refine lv_goto (tgt := 29) hx hb dX2_sizeOf_66 (by decide) ?_
                exact rec29 x4 (x5 + 1) H locs ls h hP hD hS (lv_sub hl [1, 2, 3, 4, 0] rfl)
              · have h := hf c9
                exact J60 x4 x5 H locs ls h hP hD hS (lv_sub hl [0, 1, 2, 3, 4] rfl)
            · clear hj9
              refine W.eq (g2 := F0 m 51 ls [.ref (B_t_racks 1), .int x1]) rfl ?_
              refine lv_iload hx hb dX2_sizeOf_51 (lv_at hl 4 rfl) ?_
              obtain ⟨hin, h⟩ := h
              refine va_iald hx hb hK hP 3 0 rfl rfl hin dX2_sizeOf_53 ?_
              refine mc_iS ⟨hx, hb, hml, hown, hts⟩ hK hE hA hP hD hS (c_X2_isQuandle l G Y tF H.size x1 ((t_racks 1) (Int32.toNatClampNeg x5)) h) (va_cwS 2 hts gX2_sizeOf_X2_isQuandle rfl rfl rfl (by decide +kernel) ⟨Nat.le_trans (by decide) hRf, Nat.le_trans (by decide) hRl⟩) (fun u => (w_X2_sizeOf Y h_t h_p3 B_t B_t_racks B_t_trial B_p3 B_p3_best t_racks t_sizes t_trial_n t_trial_cells p3_named p3_best_n p3_best_cells p3_firstRow p3_names p3_things p3_twins)) [] [0, 1, 2, 3, 4, 5, 6, 7, 8, 9, 10, 11, 12, 13, 14, 15, 16] [0, 1, 2, 3, 4, 5, 6, 7, 8, 9, 10, 11, 12, 13, 14, 15, 16] rfl rfl rfl rfl (by decide) (fun _ => rfl) rfl rfl hl.1 rfl (Nat.le_of_ble_eq_true rfl) dX2_sizeOf_54 (fun r54 u H locs h hP hD hS => ?_)
              try dsimp only at h
              have hP : va_P G vwCl (w_X2_sizeOf Y h_t h_p3 B_t B_t_racks B_t_trial B_p3 B_p3_best t_racks t_sizes t_trial_n t_trial_cells p3_named p3_best_n p3_best_cells p3_firstRow p3_names p3_things p3_twins) H := hP
              have hD : va_D A (w_X2_sizeOf Y h_t h_p3 B_t B_t_racks B_t_trial B_p3 B_p3_best t_racks t_sizes t_trial_n t_trial_cells p3_named p3_best_n p3_best_cells p3_firstRow p3_names p3_things p3_twins) := hD
              obtain ⟨ht, hf⟩ := h
              refine lv_if_eq (tgt := 63) hx hb dX2_sizeOf_57 (by decide) (fun c9 => ?_) (fun c9 => ?_)
              · have h := ht c9
                refine lv_iinc (v := (x5 + 1)) (lv' := [(5, .int (x5 + 1)), (0, .ref h_t), (1, .int x1), (2, .int x2), (4, .int x4)]) hx hb dX2_sizeOf_63 hl (k := 4) rfl rfl (by decide) rfl (fun ls hl => ?_)
                refine lv_goto (tgt := 29) hx hb dX2_sizeOf_66 (by decide) ?_
                exact rec29 x4 (x5 + 1) H locs ls h hP hD hS (lv_sub hl [1, 2, 3, 4, 0] rfl)
              · have h := hf c9
                exact J60 x4 x5 H locs ls h hP hD hS (lv_sub hl [0, 1, 2, 3, 4] rfl)
            · clear hj9
              refine W.eq (g2 := F0 m 51 ls [.ref (B_t_racks 2), .int x1]) rfl ?_
              refine lv_iload hx hb dX2_sizeOf_51 (lv_at hl 4 rfl) ?_
              obtain ⟨hin, h⟩ := h
              refine va_iald hx hb hK hP 4 0 rfl rfl hin dX2_sizeOf_53 ?_
              refine mc_iS ⟨hx, hb, hml, hown, hts⟩ hK hE hA hP hD hS (c_X2_isQuandle l G Y tF H.size x1 ((t_racks 2) (Int32.toNatClampNeg x5)) h) (va_cwS 2 hts gX2_sizeOf_X2_isQuandle rfl rfl rfl (by decide +kernel) ⟨Nat.le_trans (by decide) hRf, Nat.le_trans (by decide) hRl⟩) (fun u => (w_X2_sizeOf Y h_t h_p3 B_t B_t_racks B_t_trial B_p3 B_p3_best t_racks t_sizes t_trial_n t_trial_cells p3_named p3_best_n p3_best_cells p3_firstRow p3_names p3_things p3_twins)) [] [0, 1, 2, 3, 4, 5, 6, 7, 8, 9, 10, 11, 12, 13, 14, 15, 16] [0, 1, 2, 3, 4, 5, 6, 7, 8, 9, 10, 11, 12, 13, 14, 15, 16] rfl rfl rfl rfl (by decide) (fun _ => rfl) rfl rfl hl.1 rfl (Nat.le_of_ble_eq_true rfl) dX2_sizeOf_54 (fun r54 u H locs h hP hD hS => ?_)
              try dsimp only at h
              have hP : va_P G vwCl (w_X2_sizeOf Y h_t h_p3 B_t B_t_racks B_t_trial B_p3 B_p3_best t_racks t_sizes t_trial_n t_trial_cells p3_named p3_best_n p3_best_cells p3_firstRow p3_names p3_things p3_twins) H := hP
              have hD : va_D A (w_X2_sizeOf Y h_t h_p3 B_t B_t_racks B_t_trial B_p3 B_p3_best t_racks t_sizes t_trial_n t_trial_cells p3_named p3_best_n p3_best_cells p3_firstRow p3_names p3_things p3_twins) := hD
              obtain ⟨ht, hf⟩ := h
              refine lv_if_eq (tgt := 63) hx hb dX2_sizeOf_57 (by decide) (fun c9 => ?_) (fun c9 => ?_)
              · have h := ht c9
                refine lv_iinc (v := (x5 + 1)) (lv' := [(5, .int (x5 + 1)), (0, .ref h_t), (1, .int x1), (2, .int x2), (4, .int x4)]) hx hb dX2_sizeOf_63 hl (k := 4) rfl rfl (by decide) rfl (fun ls hl => ?_)
                refine lv_goto (tgt := 29) hx hb dX2_sizeOf_66 (by decide) ?_
                exact rec29 x4 (x5 + 1) H locs ls h hP hD hS (lv_sub hl [1, 2, 3, 4, 0] rfl)
              · have h := hf c9
                exact J60 x4 x5 H locs ls h hP hD hS (lv_sub hl [0, 1, 2, 3, 4] rfl)
            · clear hj9
              refine W.eq (g2 := F0 m 51 ls [.ref (B_t_racks 3), .int x1]) rfl ?_
              refine lv_iload hx hb dX2_sizeOf_51 (lv_at hl 4 rfl) ?_
              obtain ⟨hin, h⟩ := h
              refine va_iald hx hb hK hP 5 0 rfl rfl hin dX2_sizeOf_53 ?_
              refine mc_iS ⟨hx, hb, hml, hown, hts⟩ hK hE hA hP hD hS (c_X2_isQuandle l G Y tF H.size x1 ((t_racks 3) (Int32.toNatClampNeg x5)) h) (va_cwS 2 hts gX2_sizeOf_X2_isQuandle rfl rfl rfl (by decide +kernel) ⟨Nat.le_trans (by decide) hRf, Nat.le_trans (by decide) hRl⟩) (fun u => (w_X2_sizeOf Y h_t h_p3 B_t B_t_racks B_t_trial B_p3 B_p3_best t_racks t_sizes t_trial_n t_trial_cells p3_named p3_best_n p3_best_cells p3_firstRow p3_names p3_things p3_twins)) [] [0, 1, 2, 3, 4, 5, 6, 7, 8, 9, 10, 11, 12, 13, 14, 15, 16] [0, 1, 2, 3, 4, 5, 6, 7, 8, 9, 10, 11, 12, 13, 14, 15, 16] rfl rfl rfl rfl (by decide) (fun _ => rfl) rfl rfl hl.1 rfl (Nat.le_of_ble_eq_true rfl) dX2_sizeOf_54 (fun r54 u H locs h hP hD hS => ?_)
              try dsimp only at h
              have hP : va_P G vwCl (w_X2_sizeOf Y h_t h_p3 B_t B_t_racks B_t_trial B_p3 B_p3_best t_racks t_sizes t_trial_n t_trial_cells p3_named p3_best_n p3_best_cells p3_firstRow p3_names p3_things p3_twins) H := hP
              have hD : va_D A (w_X2_sizeOf Y h_t h_p3 B_t B_t_racks B_t_trial B_p3 B_p3_best t_racks t_sizes t_trial_n t_trial_cells p3_named p3_best_n p3_best_cells p3_firstRow p3_names p3_things p3_twins) := hD
              obtain ⟨ht, hf⟩ := h
              refine lv_if_eq (tgt := 63) hx hb dX2_sizeOf_57 (by decide) (fun c9 => ?_) (fun c9 => ?_)
              · have h := ht c9
                refine lv_iinc (v := (x5 + 1)) (lv' := [(5, .int (x5 + 1)), (0, .ref h_t), (1, .int x1), (2, .int x2), (4, .int x4)]) hx hb dX2_sizeOf_63 hl (k := 4) rfl rfl (by decide) rfl (fun ls hl => ?_)
                refine lv_goto (tgt := 29) hx hb dX2_sizeOf_66 (by decide) ?_
                exact rec29 x4 (x5 + 1) H locs ls h hP hD hS (lv_sub hl [1, 2, 3, 4, 0] rfl)
              · have h := hf c9
                exact J60 x4 x5 H locs ls h hP hD hS (lv_sub hl [0, 1, 2, 3, 4] rfl)
            · clear hj9
              refine W.eq (g2 := F0 m 51 ls [.ref (B_t_racks 4), .int x1]) rfl ?_
              refine lv_iload hx hb dX2_sizeOf_51 (lv_at hl 4 rfl) ?_
              obtain ⟨hin, h⟩ := h
              refine va_iald hx hb hK hP 6 0 rfl rfl hin dX2_sizeOf_53 ?_
              refine mc_iS ⟨hx, hb, hml, hown, hts⟩ hK hE hA hP hD hS (c_X2_isQuandle l G Y tF H.size x1 ((t_racks 4) (Int32.toNatClampNeg x5)) h) (va_cwS 2 hts gX2_sizeOf_X2_isQuandle rfl rfl rfl (by decide +kernel) ⟨Nat.le_trans (by decide) hRf, Nat.le_trans (by decide) hRl⟩) (fun u => (w_X2_sizeOf Y h_t h_p3 B_t B_t_racks B_t_trial B_p3 B_p3_best t_racks t_sizes t_trial_n t_trial_cells p3_named p3_best_n p3_best_cells p3_firstRow p3_names p3_things p3_twins)) [] [0, 1, 2, 3, 4, 5, 6, 7, 8, 9, 10, 11, 12, 13, 14, 15, 16] [0, 1, 2, 3, 4, 5, 6, 7, 8, 9, 10, 11, 12, 13, 14, 15, 16] rfl rfl rfl rfl (by decide) (fun _ => rfl) rfl rfl hl.1 rfl (Nat.le_of_ble_eq_true rfl) dX2_sizeOf_54 (fun r54 u H locs h hP hD hS => ?_)
              try dsimp only at h
              have hP : va_P G vwCl (w_X2_sizeOf Y h_t h_p3 B_t B_t_racks B_t_trial B_p3 B_p3_best t_racks t_sizes t_trial_n t_trial_cells p3_named p3_best_n p3_best_cells p3_firstRow p3_names p3_things p3_twins) H := hP
              have hD : va_D A (w_X2_sizeOf Y h_t h_p3 B_t B_t_racks B_t_trial B_p3 B_p3_best t_racks t_sizes t_trial_n t_trial_cells p3_named p3_best_n p3_best_cells p3_firstRow p3_names p3_things p3_twins) := hD
              obtain ⟨ht, hf⟩ := h
              refine lv_if_eq (tgt := 63) hx hb dX2_sizeOf_57 (by decide) (fun c9 => ?_) (fun c9 => ?_)
              · have h := ht c9
                refine lv_iinc (v := (x5 + 1)) (lv' := [(5, .int (x5 + 1)), (0, .ref h_t), (1, .int x1), (2, .int x2), (4, .int x4)]) hx hb dX2_sizeOf_63 hl (k := 4) rfl rfl (by decide) rfl (fun ls hl => ?_)
                refine lv_goto (tgt := 29) hx hb dX2_sizeOf_66 (by decide) ?_
                exact rec29 x4 (x5 + 1) H locs ls h hP hD hS (lv_sub hl [1, 2, 3, 4, 0] rfl)
              · have h := hf c9
                exact J60 x4 x5 H locs ls h hP hD hS (lv_sub hl [0, 1, 2, 3, 4] rfl)
    exact L29 x1 x2 t_racks t_sizes t_trial_n t_trial_cells p3_named p3_best_n p3_best_cells p3_firstRow p3_names p3_things p3_twins I29 m29 hB29 _ (0 : Int32) (0 : Int32) H locs ls hI29 (Nat.lt_succ_self _) hP hD hS (lv_sub hl [2, 3, 4, 1, 0] rfl)
  refine lv_aload_n hx hb dX2_sizeOf_0 rfl (lv_at hl 0 rfl) ?_
  refine va_get (D := G) (ci := 2) (v := .ref (B_t 1)) (C := RX2) (T := TX2) (N := 3) hx hb hts inX2 hown hK hP 0 rfl rfl 1 (by decide) hf16 (fun _ h9 => h9) rfl dX2_sizeOf_1 ?_
  refine lv_iload_n hx hb dX2_sizeOf_4 rfl (lv_at hl 1 rfl) ?_
  obtain ⟨hin, h⟩ := h
  refine va_iald hx hb hK hP 7 0 rfl rfl hin dX2_sizeOf_5 ?_
  obtain ⟨ht, hf⟩ := h
  refine lv_if_ne (tgt := 23) hx hb dX2_sizeOf_6 (by decide) (fun c9 => ?_) (fun c9 => ?_)
  · have h := ht c9
    exact J23 x1 x2 t_racks t_sizes t_trial_n t_trial_cells p3_named p3_best_n p3_best_cells p3_firstRow p3_names p3_things p3_twins H locs ls h hP hD hS (lv_sub hl [0, 1, 2] rfl)
  · have h := hf c9
    refine lv_aload_n hx hb dX2_sizeOf_9 rfl (lv_at hl 0 rfl) ?_
    refine va_get (D := G) (ci := 2) (v := .ref (B_t 2)) (C := RX2) (T := TX2) (N := 3) hx hb hts inX2 hown hK hP 0 rfl rfl 2 (by decide) hf25 (fun _ h9 => h9) rfl dX2_sizeOf_10 ?_
    refine lv_iload_n hx hb dX2_sizeOf_13 rfl (lv_at hl 1 rfl) ?_
    refine va_putN (D := G) (ci := 6) (v := .int x1) (ty := .int) (C := RX7) (T := TX7) (N := 2) hx hb hts inX7 tyX7 tyX7_ok nmX7 hown hK hP hD hS 8 rfl rfl 1 (by decide) (hE.nest args 7 _ rfl) (fun _ h9 => h9) rfl (by decide +kernel) rfl rfl (Nat.le_of_ble_eq_true rfl) dX2_sizeOf_14 (fun H locs hP hD hS => ?_)
    have hP : va_P G vwCl (w_X2_sizeOf Y h_t h_p3 B_t B_t_racks B_t_trial B_p3 B_p3_best t_racks t_sizes x1 t_trial_cells p3_named p3_best_n p3_best_cells p3_firstRow p3_names p3_things p3_twins) H := hP
    have hD : va_D A (w_X2_sizeOf Y h_t h_p3 B_t B_t_racks B_t_trial B_p3 B_p3_best t_racks t_sizes x1 t_trial_cells p3_named p3_best_n p3_best_cells p3_firstRow p3_names p3_things p3_twins) := hD
    refine lv_aload_n hx hb dX2_sizeOf_17 rfl (lv_at hl 0 rfl) ?_
    refine lv_iconst (v := 0) hx hb dX2_sizeOf_18 (by decide) ?_
    refine lv_aload_n hx hb dX2_sizeOf_19 rfl (lv_at hl 3 rfl) ?_
    refine mc_vV ⟨hx, hb, hml, hown, hts⟩ hK hE hA hP hD hS (c_X2_fillRow 6 l G Y tF H.size h_t h_p3 B_t B_t_racks B_t_trial B_p3 B_p3_best t_racks t_sizes x1 t_trial_cells p3_named p3_best_n p3_best_cells p3_firstRow p3_names p3_things p3_twins (0 : Int32) h) (cwV 2 hts gX2_sizeOf_X2_fillRow rfl rfl rfl (by decide +kernel) ⟨Nat.le_trans (by decide) hRf, Nat.le_trans (by decide) hRl⟩) (fun u => (w_X2_sizeOf Y h_t h_p3 B_t B_t_racks B_t_trial B_p3 B_p3_best u.1 u.2.1 x1 u.2.2.1 u.2.2.2.1 u.2.2.2.2.1 u.2.2.2.2.2.1 u.2.2.2.2.2.2.1 u.2.2.2.2.2.2.2.1 u.2.2.2.2.2.2.2.2.1 u.2.2.2.2.2.2.2.2.2)) [0, 1, 2, 3, 4, 5, 6, 7, 8, 9, 10, 11, 12, 13, 14, 15, 16] [] [0, 1, 2, 3, 4, 5, 6, 7, 8, 9, 10, 11, 12, 13, 14, 15, 16] rfl rfl rfl rfl (by decide) (fun _ => rfl) rfl 0 2 rfl rfl rfl rfl hl.1 rfl (Nat.le_of_ble_eq_true rfl) dX2_sizeOf_20 (fun u H locs h hP hD hS => ?_)
    obtain ⟨t_racks_20, t_sizes_20, t_trial_cells_20, p3_named_20, p3_best_n_20, p3_best_cells_20, p3_firstRow_20, p3_names_20, p3_things_20, p3_twins_20⟩ := u
    try dsimp only at h
    have hP : va_P G vwCl (w_X2_sizeOf Y h_t h_p3 B_t B_t_racks B_t_trial B_p3 B_p3_best t_racks_20 t_sizes_20 x1 t_trial_cells_20 p3_named_20 p3_best_n_20 p3_best_cells_20 p3_firstRow_20 p3_names_20 p3_things_20 p3_twins_20) H := hP
    have hD : va_D A (w_X2_sizeOf Y h_t h_p3 B_t B_t_racks B_t_trial B_p3 B_p3_best t_racks_20 t_sizes_20 x1 t_trial_cells_20 p3_named_20 p3_best_n_20 p3_best_cells_20 p3_firstRow_20 p3_names_20 p3_things_20 p3_twins_20) := hD
    exact J23 x1 x2 t_racks_20 t_sizes_20 x1 t_trial_cells_20 p3_named_20 p3_best_n_20 p3_best_cells_20 p3_firstRow_20 p3_names_20 p3_things_20 p3_twins_20 H locs ls h hP hD hS (lv_sub hl [0, 1, 2] rfl)

set_option maxHeartbeats 4000000 in
set_option maxRecDepth 100000 in
theorem c_X2_sizeOf (l : Launch) (G : va_G) (Y : Nat → ClassId) (tF sz : Nat) (h_t : Nat) (h_p3 : Nat) (B_t : Nat → Nat) (B_t_racks : Nat → Nat) (B_t_trial : Nat → Nat) (B_p3 : Nat → Nat) (B_p3_best : Nat → Nat) (t_racks : Nat → Nat → Int32) (t_sizes : Nat → Int32) (t_trial_n : Int32) (t_trial_cells : Nat → Int32) (p3_named : Int32) (p3_best_n : Int32) (p3_best_cells : Nat → Int32) (p3_firstRow : Nat → Int32) (p3_names : Nat → Int32) (p3_things : Nat → Int32) (p3_twins : Nat → Int32) (x1 : Int32) (x2 : Int32) {K : Int32 → (Nat → Nat → Int32) → (Nat → Int32) → Int32 → (Nat → Int32) → Int32 → Int32 → (Nat → Int32) → (Nat → Int32) → (Nat → Int32) → (Nat → Int32) → (Nat → Int32) → Prop} (h : pX2_sizeOf t_racks t_sizes t_trial_n t_trial_cells p3_named p3_best_n p3_best_cells p3_firstRow p3_names p3_things p3_twins x1 x2 K) : Met l yX2_sizeOf wsX2_sizeOf ({ frames := 31, cells := 0, slots := 0, locals := 721 }) (PcM G Y tF sz (w_X2_sizeOf Y h_t h_p3 B_t B_t_racks B_t_trial B_p3 B_p3_best t_racks t_sizes t_trial_n t_trial_cells p3_named p3_best_n p3_best_cells p3_firstRow p3_names p3_things p3_twins) [.ref h_t, .int x1, .int x2, .ref h_p3]) (va_Qi (fun (r : Int32) (u : (Nat → Nat → Int32) × (Nat → Int32) × Int32 × (Nat → Int32) × Int32 × Int32 × (Nat → Int32) × (Nat → Int32) × (Nat → Int32) × (Nat → Int32) × (Nat → Int32)) => K r u.1 u.2.1 u.2.2.1 u.2.2.2.1 u.2.2.2.2.1 u.2.2.2.2.2.1 u.2.2.2.2.2.2.1 u.2.2.2.2.2.2.2.1 u.2.2.2.2.2.2.2.2.1 u.2.2.2.2.2.2.2.2.2.1 u.2.2.2.2.2.2.2.2.2.2) (fun u t => BM G Y (va_A (w_X2_sizeOf Y h_t h_p3 B_t B_t_racks B_t_trial B_p3 B_p3_best t_racks t_sizes t_trial_n t_trial_cells p3_named p3_best_n p3_best_cells p3_firstRow p3_names p3_things p3_twins) sz) (w_X2_sizeOf Y h_t h_p3 B_t B_t_racks B_t_trial B_p3 B_p3_best u.1 u.2.1 u.2.2.1 u.2.2.2.1 u.2.2.2.2.1 u.2.2.2.2.2.1 u.2.2.2.2.2.2.1 u.2.2.2.2.2.2.2.1 u.2.2.2.2.2.2.2.2.1 u.2.2.2.2.2.2.2.2.2.1 u.2.2.2.2.2.2.2.2.2.2) t) (va_A (w_X2_sizeOf Y h_t h_p3 B_t B_t_racks B_t_trial B_p3 B_p3_best t_racks t_sizes t_trial_n t_trial_cells p3_named p3_best_n p3_best_cells p3_firstRow p3_names p3_things p3_twins) sz)) 0 0 (va_A (w_X2_sizeOf Y h_t h_p3 B_t B_t_racks B_t_trial B_p3 B_p3_best t_racks t_sizes t_trial_n t_trial_cells p3_named p3_best_n p3_best_cells p3_firstRow p3_names p3_things p3_twins) sz) := by
  refine Met.ofW (cc := cX2_sizeOf) (maxL := 6) (ret := (some .int)) (by decide +kernel) rfl ?_
  intro p e s m args below meth c s₁ B hml hv
  obtain ⟨rfl, hsz, hP, hK, hD0, hE⟩ := hv
  have hts := atoms_spec (ws := wsX2_sizeOf) B.pre
  have hown : s.vm.findClass RX2 = some m.cls := findClass_of_methodNamed B.named
  have hlocks := B.notSynchronized
  subst hsz
  have hD := hD0.self (sz := s.heap.size)
  exact wk_X2_sizeOf h_t h_p3 B_t B_t_racks B_t_trial B_p3 B_p3_best t_racks t_sizes t_trial_n t_trial_cells p3_named p3_best_n p3_best_cells p3_firstRow p3_names p3_things p3_twins x1 x2 B.exec B.bytes hml hown hts hK hE (fun q h => Or.inr h) (Nat.le_refl _) (Nat.le_refl _) (fun r t_racks t_sizes t_trial_n t_trial_cells p3_named p3_best_n p3_best_cells p3_firstRow p3_names p3_things p3_twins H locs ls pc hP hD hS hk hd => W.iret (v := r) B.exec B.bytes B.returns (fun t ht hW => ⟨⟨r, (t_racks, t_sizes, t_trial_n, t_trial_cells, p3_named, p3_best_n, p3_best_cells, p3_firstRow, p3_names, p3_things, p3_twins), rfl, hk, by rw [ht]; exact hP, va_K.moved hW.alike hK, hD⟩, hS.F ht⟩) hS.2.2 hd) hP hD h

abbrev w_X2_unpackCells (Y : Nat → ClassId) (h_p2 : Nat) (B_p2 : Nat → Nat) (p2_n : Int32) (p2_cells : Nat → Int32) : va_W := [(h_p2, .inr (6, [.ref (B_p2 0), .int p2_n])), ((B_p2 0), .inl (Y 0, 64, .inl p2_cells))]

set_option maxHeartbeats 4000000 in
set_option maxRecDepth 100000 in
theorem wk_X2_unpackCells {p : Program} {l : Launch} {e : Env} {R : Room} {s : State} {m : MethodId} {args : Array Value} {below : List Frame} {meth : Method} {c : Code} {Q : State → Prop} {G : va_G} {Y : Nat → ClassId} {tF : Nat} {A : Nat → Prop} (h_p2 : Nat) (B_p2 : Nat → Nat) (p2_n : Int32) (p2_cells : Nat → Int32) (x0 : Int32) (x1 : Int32) {K : Int32 → (Nat → Int32) → Prop} (hx : p.tables.exec = Jvm.exec) (hb : c.code = cX2_unpackCells) (hml : c.maxLocals = 5) (hown : s.vm.findClass RX2 = some m.cls) (hts : ∀ w ∈ wsX2_unpackCells, w.before args s = true) (hK : va_K G vwCl (tyL Y) s) (hE : Ev A tF s) (hA : ∀ q, s.heap.size ≤ q → A q) (hRf : 1 ≤ R.frames) (hRl : 23 ≤ R.locals) (hret : ∀ (p2_n : Int32) (p2_cells : Nat → Int32) (H : Heap) (locs : List Loc) (ls : Array Slot) (pc : Nat), va_P G vwCl (w_X2_unpackCells Y h_p2 B_p2 p2_n p2_cells) H → va_D A (w_X2_unpackCells Y h_p2 B_p2 p2_n p2_cells) → va_S A s.heap H locs → K p2_n p2_cells → decode cX2_unpackCells pc = .ok (.return_, 1) → W p l e R s m args below meth c H locs 0 0 Q (F0 m pc ls [])) (hP : va_P G vwCl (w_X2_unpackCells Y h_p2 B_p2 p2_n p2_cells) s.heap) (hD : va_D A (w_X2_unpackCells Y h_p2 B_p2 p2_n p2_cells)) (h : pX2_unpackCells p2_n p2_cells x0 x1 K) : W p l e R s m args below meth c s.heap [] 0 0 Q (entryFrame m ([.int x0, .int x1, .ref h_p2] : List Value).toArray 5) := by
  have inX7 : ∀ w ∈ u_ws RX7 TX7 2, w ∈ wsX2_unpackCells := by decide +kernel
  have hl := lv_entry ([.int x0, .int x1, .ref h_p2]) (n := 5) (Nat.le_of_ble_eq_true rfl)
  rw [lg_entry_eq]
  generalize (lg_sl ([.int x0, .int x1, .ref h_p2]) ++ List.replicate (5 - (lg_sl ([.int x0, .int x1, .ref h_p2])).length) Slot.unset).toArray = ls at hl ⊢
  have hl : lv_has ls 5 [(0, .int x0), (1, .int x1), (2, .ref h_p2)] := hl
  generalize hH0 : s.heap = H at hP ⊢
  have hS : va_S A s.heap H [] := by rw [← hH0]; exact va_S.rf
  clear hH0
  generalize ([] : List Loc) = locs at hS ⊢
  refine lv_aload_n hx hb dX2_unpackCells_0 rfl (lv_at hl 2 rfl) ?_
  refine lv_iload_n hx hb dX2_unpackCells_1 rfl (lv_at hl 0 rfl) ?_
  refine va_putN (D := G) (ci := 6) (v := .int x0) (ty := .int) (C := RX7) (T := TX7) (N := 2) hx hb hts inX7 tyX7 tyX7_ok nmX7 hown hK hP hD hS 0 rfl rfl 1 (by decide) (hE.nest args 7 _ rfl) (fun _ h9 => h9) rfl (by decide +kernel) rfl rfl (Nat.le_of_ble_eq_true rfl) dX2_unpackCells_2 (fun H locs hP hD hS => ?_)
  have hP : va_P G vwCl (w_X2_unpackCells Y h_p2 B_p2 x0 p2_cells) H := hP
  have hD : va_D A (w_X2_unpackCells Y h_p2 B_p2 x0 p2_cells) := hD
  refine lv_iconst (v := 0) hx hb dX2_unpackCells_5 (by decide) ?_
  refine lv_istore_n (lv' := [(3, .int (0 : Int32)), (0, .int x0), (1, .int x1), (2, .ref h_p2)]) hx hb dX2_unpackCells_6 rfl hl (by decide) rfl (fun ls hl => ?_)
  obtain ⟨I7, m7, hI7, hB7⟩ := h
  have L7 : ∀ (x0 : Int32) (x1 : Int32) (p2_n : Int32) (I7 : Int32 → (Nat → Int32) → Prop) (m7 : Int32 → (Nat → Int32) → Nat), (∀ (x3 : Int32) (p2_cells : Nat → Int32), I7 x3 p2_cells → pX2_unpackCells_7 K x0 x1 p2_n x3 p2_cells (fun x3' p2_cells' => I7 x3' p2_cells' ∧ m7 x3' p2_cells' < m7 x3 p2_cells)) → ∀ (n : Nat) (x3 : Int32) (p2_cells : Nat → Int32) (H : Heap) (locs : List Loc) (ls : Array Slot), I7 x3 p2_cells → m7 x3 p2_cells < n → va_P G vwCl (w_X2_unpackCells Y h_p2 B_p2 p2_n p2_cells) H → va_D A (w_X2_unpackCells Y h_p2 B_p2 p2_n p2_cells) → va_S A s.heap H locs → lv_has ls 5 [(0, .int x0), (1, .int x1), (2, .ref h_p2), (3, .int x3)] → W p l e R s m args below meth c H locs 0 0 Q (F0 m 7 ls []) := by
    intro x0 x1 p2_n I7 m7 hB7 n
    induction n with
    | zero => intro x3 p2_cells H locs ls _ hm; exact absurd hm (Nat.not_lt_zero _)
    | succ n ih =>
      intro x3 p2_cells H locs ls hI hm hP hD hS hl
      obtain ⟨R7, h, rec7⟩ : ∃ R7 : Int32 → (Nat → Int32) → Prop, pX2_unpackCells_7 K x0 x1 p2_n x3 p2_cells R7 ∧ ∀ (x3 : Int32) (p2_cells : Nat → Int32) (H : Heap) (locs : List Loc) (ls : Array Slot), R7 x3 p2_cells → va_P G vwCl (w_X2_unpackCells Y h_p2 B_p2 p2_n p2_cells) H → va_D A (w_X2_unpackCells Y h_p2 B_p2 p2_n p2_cells) → va_S A s.heap H locs → lv_has ls 5 [(0, .int x0), (1, .int x1), (2, .ref h_p2), (3, .int x3)] → W p l e R s m args below meth c H locs 0 0 Q (F0 m 7 ls []) := ⟨_, hB7 x3 p2_cells hI, fun x3 p2_cells H locs ls hh hP hD hS hl => ih x3 p2_cells H locs ls hh.1 (Nat.lt_of_lt_of_le hh.2 (Nat.le_of_lt_succ hm)) hP hD hS hl⟩
      refine lv_iload_n hx hb dX2_unpackCells_7 rfl (lv_at hl 3 rfl) ?_
      refine lv_iload_n hx hb dX2_unpackCells_8 rfl (lv_at hl 0 rfl) ?_
      obtain ⟨ht, hf⟩ := h
      refine lv_icmp_ge (tgt := 48) hx hb dX2_unpackCells_9 (by decide) (fun c9 => ?_) (fun c9 => ?_)
      · have h := ht c9
        exact hret p2_n p2_cells H locs ls _ hP hD hS h dX2_unpackCells_48
      · have h := hf c9
        refine lv_iconst (v := 0) hx hb dX2_unpackCells_12 (by decide) ?_
        refine lv_istore (lv' := [(4, .int (0 : Int32)), (0, .int x0), (1, .int x1), (2, .ref h_p2), (3, .int x3)]) hx hb dX2_unpackCells_13 hl (by decide) rfl (fun ls hl => ?_)
        obtain ⟨I15, m15, hI15, hB15⟩ := h
        have L15 : ∀ (x3 : Int32) (I15 : Int32 → (Nat → Int32) → Prop) (m15 : Int32 → (Nat → Int32) → Nat), (∀ (x4 : Int32) (p2_cells : Nat → Int32), I15 x4 p2_cells → pX2_unpackCells_15 R7 K x0 x1 p2_n x3 x4 p2_cells (fun x4' p2_cells' => I15 x4' p2_cells' ∧ m15 x4' p2_cells' < m15 x4 p2_cells)) → ∀ (n : Nat) (x4 : Int32) (p2_cells : Nat → Int32) (H : Heap) (locs : List Loc) (ls : Array Slot), I15 x4 p2_cells → m15 x4 p2_cells < n → va_P G vwCl (w_X2_unpackCells Y h_p2 B_p2 p2_n p2_cells) H → va_D A (w_X2_unpackCells Y h_p2 B_p2 p2_n p2_cells) → va_S A s.heap H locs → lv_has ls 5 [(0, .int x0), (1, .int x1), (2, .ref h_p2), (3, .int x3), (4, .int x4)] → W p l e R s m args below meth c H locs 0 0 Q (F0 m 15 ls []) := by
          intro x3 I15 m15 hB15 n
          induction n with
          | zero => intro x4 p2_cells H locs ls _ hm; exact absurd hm (Nat.not_lt_zero _)
          | succ n ih =>
            intro x4 p2_cells H locs ls hI hm hP hD hS hl
            obtain ⟨R15, h, rec15⟩ : ∃ R15 : Int32 → (Nat → Int32) → Prop, pX2_unpackCells_15 R7 K x0 x1 p2_n x3 x4 p2_cells R15 ∧ ∀ (x4 : Int32) (p2_cells : Nat → Int32) (H : Heap) (locs : List Loc) (ls : Array Slot), R15 x4 p2_cells → va_P G vwCl (w_X2_unpackCells Y h_p2 B_p2 p2_n p2_cells) H → va_D A (w_X2_unpackCells Y h_p2 B_p2 p2_n p2_cells) → va_S A s.heap H locs → lv_has ls 5 [(0, .int x0), (1, .int x1), (2, .ref h_p2), (3, .int x3), (4, .int x4)] → W p l e R s m args below meth c H locs 0 0 Q (F0 m 15 ls []) := ⟨_, hB15 x4 p2_cells hI, fun x4 p2_cells H locs ls hh hP hD hS hl => ih x4 p2_cells H locs ls hh.1 (Nat.lt_of_lt_of_le hh.2 (Nat.le_of_lt_succ hm)) hP hD hS hl⟩
            refine lv_iload hx hb dX2_unpackCells_15 (lv_at hl 4 rfl) ?_
            refine lv_iload_n hx hb dX2_unpackCells_17 rfl (lv_at hl 0 rfl) ?_
            obtain ⟨ht, hf⟩ := h
            refine lv_icmp_ge (tgt := 42) hx hb dX2_unpackCells_18 (by decide) (fun c9 => ?_) (fun c9 => ?_)
            · have h := ht c9
              refine lv_iinc (v := (x3 + 1)) (lv' := [(3, .int (x3 + 1)), (0, .int x0), (1, .int x1), (2, .ref h_p2), (4, .int x4)]) hx hb dX2_unpackCells_42 hl (k := 3) rfl rfl (by decide) rfl (fun ls hl => ?_)
              refine lv_goto (tgt := 7) hx hb dX2_unpackCells_45 (by decide) ?_
              exact rec7 (x3 + 1) p2_cells H locs ls h hP hD hS (lv_sub hl [1, 2, 3, 0] rfl)
            · have h := hf c9
              refine lv_aload_n hx hb dX2_unpackCells_21 rfl (lv_at hl 2 rfl) ?_
              refine lv_iload_n hx hb dX2_unpackCells_22 rfl (lv_at hl 3 rfl) ?_
              refine lv_iload hx hb dX2_unpackCells_23 (lv_at hl 4 rfl) ?_
              refine lv_iload_n hx hb dX2_unpackCells_25 rfl (lv_at hl 0 rfl) ?_
              refine lv_iload_n hx hb dX2_unpackCells_26 rfl (lv_at hl 1 rfl) ?_
              refine lv_iload_n hx hb dX2_unpackCells_27 rfl (lv_at hl 3 rfl) ?_
              refine lv_iload hx hb dX2_unpackCells_28 (lv_at hl 4 rfl) ?_
              refine mc_iS ⟨hx, hb, hml, hown, hts⟩ hK hE hA hP hD hS (c_X2_cell l G Y tF H.size x0 x1 x3 x4 h) (va_cwS 4 hts gX2_unpackCells_X2_cell rfl rfl rfl (by decide +kernel) ⟨Nat.le_trans (by decide) hRf, Nat.le_trans (by decide) hRl⟩) (fun u => (w_X2_unpackCells Y h_p2 B_p2 p2_n p2_cells)) [] [0, 1] [0, 1] rfl rfl rfl rfl (by decide) (fun _ => rfl) rfl rfl hl.1 rfl (Nat.le_of_ble_eq_true rfl) dX2_unpackCells_30 (fun r30 u H locs h hP hD hS => ?_)
              try dsimp only at h
              have hP : va_P G vwCl (w_X2_unpackCells Y h_p2 B_p2 p2_n p2_cells) H := hP
              have hD : va_D A (w_X2_unpackCells Y h_p2 B_p2 p2_n p2_cells) := hD
              refine mc_vV ⟨hx, hb, hml, hown, hts⟩ hK hE hA hP hD hS (c_X7_put l G Y tF H.size h_p2 B_p2 p2_n p2_cells x3 x4 r30 h) (cwV 3 hts gX2_unpackCells_X7_put rfl rfl rfl (by decide +kernel) ⟨Nat.le_trans (by decide) hRf, Nat.le_trans (by decide) hRl⟩) (fun u => (w_X2_unpackCells Y h_p2 B_p2 p2_n u)) [0, 1] [] [0, 1] rfl rfl rfl rfl (by decide) (fun _ => rfl) rfl 0 6 rfl rfl rfl rfl hl.1 rfl (Nat.le_of_ble_eq_true rfl) dX2_unpackCells_33 (fun u H locs h hP hD hS => ?_)
              obtain ⟨p2_cells_33, rfl⟩ : ∃ z, z = u := ⟨_, rfl⟩
              try dsimp only at h
              have hP : va_P G vwCl (w_X2_unpackCells Y h_p2 B_p2 p2_n p2_cells_33) H := hP
              have hD : va_D A (w_X2_unpackCells Y h_p2 B_p2 p2_n p2_cells_33) := hD
              refine lv_iinc (v := (x4 + 1)) (lv' := [(4, .int (x4 + 1)), (0, .int x0), (1, .int x1), (2, .ref h_p2), (3, .int x3)]) hx hb dX2_unpackCells_36 hl (k := 4) rfl rfl (by decide) rfl (fun ls hl => ?_)
              refine lv_goto (tgt := 15) hx hb dX2_unpackCells_39 (by decide) ?_
              exact rec15 (x4 + 1) p2_cells_33 H locs ls h hP hD hS (lv_sub hl [1, 2, 3, 4, 0] rfl)
        exact L15 x3 I15 m15 hB15 _ (0 : Int32) p2_cells H locs ls hI15 (Nat.lt_succ_self _) hP hD hS (lv_sub hl [1, 2, 3, 4, 0] rfl)
  exact L7 x0 x1 x0 I7 m7 hB7 _ (0 : Int32) p2_cells H locs ls hI7 (Nat.lt_succ_self _) hP hD hS (lv_sub hl [1, 2, 3, 0] rfl)

set_option maxHeartbeats 4000000 in
set_option maxRecDepth 100000 in
theorem c_X2_unpackCells (l : Launch) (G : va_G) (Y : Nat → ClassId) (tF sz : Nat) (h_p2 : Nat) (B_p2 : Nat → Nat) (p2_n : Int32) (p2_cells : Nat → Int32) (x0 : Int32) (x1 : Int32) {K : Int32 → (Nat → Int32) → Prop} (h : pX2_unpackCells p2_n p2_cells x0 x1 K) : Met l yX2_unpackCells wsX2_unpackCells ({ frames := 1, cells := 0, slots := 0, locals := 23 }) (PcM G Y tF sz (w_X2_unpackCells Y h_p2 B_p2 p2_n p2_cells) [.int x0, .int x1, .ref h_p2]) (va_Qv (fun u : Int32 × (Nat → Int32) => K u.1 u.2) (fun u t => BM G Y (va_A (w_X2_unpackCells Y h_p2 B_p2 p2_n p2_cells) sz) (w_X2_unpackCells Y h_p2 B_p2 u.1 u.2) t) (va_A (w_X2_unpackCells Y h_p2 B_p2 p2_n p2_cells) sz)) 0 0 (va_A (w_X2_unpackCells Y h_p2 B_p2 p2_n p2_cells) sz) := by
  refine Met.ofW (cc := cX2_unpackCells) (maxL := 5) (ret := none) (by decide +kernel) rfl ?_
  intro p e s m args below meth c s₁ B hml hv
  obtain ⟨rfl, hsz, hP, hK, hD0, hE⟩ := hv
  have hts := atoms_spec (ws := wsX2_unpackCells) B.pre
  have hown : s.vm.findClass RX2 = some m.cls := findClass_of_methodNamed B.named
  have hlocks := B.notSynchronized
  subst hsz
  have hD := hD0.self (sz := s.heap.size)
  exact wk_X2_unpackCells h_p2 B_p2 p2_n p2_cells x0 x1 B.exec B.bytes hml hown hts hK hE (fun q h => Or.inr h) (Nat.le_refl _) (Nat.le_refl _) (fun p2_n p2_cells H locs ls pc hP hD hS hk hd => W.vret B.exec B.bytes B.returns (fun t ht hW => ⟨⟨(p2_n, p2_cells), rfl, hk, by rw [ht]; exact hP, va_K.moved hW.alike hK, hD⟩, hS.F ht⟩) hS.2.2 hd) hP hD h

abbrev w_X2_unpack (Y : Nat → ClassId) (h_t : Nat) (h_p4 : Nat) (B_t : Nat → Nat) (B_t_racks : Nat → Nat) (B_p4 : Nat → Nat) (t_racks : Nat → Nat → Int32) (t_sizes : Nat → Int32) (p4_n : Int32) (p4_cells : Nat → Int32) : va_W := [(h_t, .inr (2, [.ref (B_t 0), .ref (B_t 1), .ref (B_t 2)])), ((B_t 0), .inl (Y 3, 5, .inr (.inr (.inr (.inr (fun i => if i < 5 then some (B_t_racks i) else none)))))), ((B_t_racks 0), .inl (Y 0, 19, .inl (t_racks 0))), ((B_t_racks 1), .inl (Y 0, 19, .inl (t_racks 1))), ((B_t_racks 2), .inl (Y 0, 19, .inl (t_racks 2))), ((B_t_racks 3), .inl (Y 0, 19, .inl (t_racks 3))), ((B_t_racks 4), .inl (Y 0, 19, .inl (t_racks 4))), ((B_t 1), .inl (Y 0, 5, .inl t_sizes)), (h_p4, .inr (6, [.ref (B_p4 0), .int p4_n])), ((B_p4 0), .inl (Y 0, 64, .inl p4_cells))]

set_option maxHeartbeats 4000000 in
set_option maxRecDepth 100000 in
theorem wk_X2_unpack {p : Program} {l : Launch} {e : Env} {R : Room} {s : State} {m : MethodId} {args : Array Value} {below : List Frame} {meth : Method} {c : Code} {Q : State → Prop} {G : va_G} {Y : Nat → ClassId} {tF : Nat} {A : Nat → Prop} (h_t : Nat) (h_p4 : Nat) (B_t : Nat → Nat) (B_t_racks : Nat → Nat) (B_p4 : Nat → Nat) (t_racks : Nat → Nat → Int32) (t_sizes : Nat → Int32) (p4_n : Int32) (p4_cells : Nat → Int32) (x1 : Int32) (x2 : Int32) (x3 : Int32) {K : Int32 → (Nat → Int32) → Prop} (hx : p.tables.exec = Jvm.exec) (hb : c.code = cX2_unpack) (hml : c.maxLocals = 7) (hown : s.vm.findClass RX2 = some m.cls) (hts : ∀ w ∈ wsX2_unpack, w.before args s = true) (hK : va_K G vwCl (tyL Y) s) (hE : Ev A tF s) (hA : ∀ q, s.heap.size ≤ q → A q) (hRf : 2 ≤ R.frames) (hRl : 47 ≤ R.locals) (hret : ∀ (p4_n : Int32) (p4_cells : Nat → Int32) (H : Heap) (locs : List Loc) (ls : Array Slot) (pc : Nat), va_P G vwCl (w_X2_unpack Y h_t h_p4 B_t B_t_racks B_p4 t_racks t_sizes p4_n p4_cells) H → va_D A (w_X2_unpack Y h_t h_p4 B_t B_t_racks B_p4 t_racks t_sizes p4_n p4_cells) → va_S A s.heap H locs → K p4_n p4_cells → decode cX2_unpack pc = .ok (.return_, 1) → W p l e R s m args below meth c H locs 0 0 Q (F0 m pc ls [])) (hP : va_P G vwCl (w_X2_unpack Y h_t h_p4 B_t B_t_racks B_p4 t_racks t_sizes p4_n p4_cells) s.heap) (hD : va_D A (w_X2_unpack Y h_t h_p4 B_t B_t_racks B_p4 t_racks t_sizes p4_n p4_cells)) (h : pX2_unpack t_racks t_sizes p4_n p4_cells x1 x2 x3 K) : W p l e R s m args below meth c s.heap [] 0 0 Q (entryFrame m ([.ref h_t, .int x1, .int x2, .int x3, .ref h_p4] : List Value).toArray 7) := by
  have inX2 : ∀ w ∈ u_ws RX2 TX2 3, w ∈ wsX2_unpack := by decide +kernel
  have hf13 := hts (.fieldLink RX2 13 "RackBench$Lister" "racks" "[[I") (by decide +kernel)
  have hf16 := hts (.fieldLink RX2 16 "RackBench$Lister" "sizes" "[I") (by decide +kernel)
  have hl := lv_entry ([.ref h_t, .int x1, .int x2, .int x3, .ref h_p4]) (n := 7) (Nat.le_of_ble_eq_true rfl)
  rw [lg_entry_eq]
  generalize (lg_sl ([.ref h_t, .int x1, .int x2, .int x3, .ref h_p4]) ++ List.replicate (7 - (lg_sl ([.ref h_t, .int x1, .int x2, .int x3, .ref h_p4])).length) Slot.unset).toArray = ls at hl ⊢
  have hl : lv_has ls 7 [(0, .ref h_t), (1, .int x1), (2, .int x2), (3, .int x3), (4, .ref h_p4)] := hl
  generalize hH0 : s.heap = H at hP ⊢
  have hS : va_S A s.heap H [] := by rw [← hH0]; exact va_S.rf
  clear hH0
  generalize ([] : List Loc) = locs at hS ⊢
  refine lv_iload_n hx hb dX2_unpack_0 rfl (lv_at hl 3 rfl) ?_
  refine lv_istore (lv' := [(5, .int x3), (0, .ref h_t), (1, .int x1), (2, .int x2), (3, .int x3), (4, .ref h_p4)]) hx hb dX2_unpack_1 hl (by decide) rfl (fun ls hl => ?_)
  refine lv_iconst (v := 0) hx hb dX2_unpack_3 (by decide) ?_
  refine lv_istore (lv' := [(6, .int (0 : Int32)), (5, .int x3), (0, .ref h_t), (1, .int x1), (2, .int x2), (3, .int x3), (4, .ref h_p4)]) hx hb dX2_unpack_4 hl (by decide) rfl (fun ls hl => ?_)
  obtain ⟨I6, m6, hI6, hB6⟩ := h
  have L6 : ∀ (x1 : Int32) (x2 : Int32) (I6 : Int32 → Int32 → Int32 → (Nat → Int32) → Prop) (m6 : Int32 → Int32 → Int32 → (Nat → Int32) → Nat), (∀ (x5 : Int32) (x6 : Int32) (p4_n : Int32) (p4_cells : Nat → Int32), I6 x5 x6 p4_n p4_cells → pX2_unpack_6 t_racks t_sizes K x1 x2 x5 x6 p4_n p4_cells (fun x5' x6' p4_n' p4_cells' => I6 x5' x6' p4_n' p4_cells' ∧ m6 x5' x6' p4_n' p4_cells' < m6 x5 x6 p4_n p4_cells)) → ∀ (n : Nat) (x5 : Int32) (x6 : Int32) (p4_n : Int32) (p4_cells : Nat → Int32) (H : Heap) (locs : List Loc) (ls : Array Slot), I6 x5 x6 p4_n p4_cells → m6 x5 x6 p4_n p4_cells < n → va_P G vwCl (w_X2_unpack Y h_t h_p4 B_t B_t_racks B_p4 t_racks t_sizes p4_n p4_cells) H → va_D A (w_X2_unpack Y h_t h_p4 B_t B_t_racks B_p4 t_racks t_sizes p4_n p4_cells) → va_S A s.heap H locs → lv_has ls 7 [(0, .ref h_t), (1, .int x1), (2, .int x2), (4, .ref h_p4), (5, .int x5), (6, .int x6)] → W p l e R s m args below meth c H locs 0 0 Q (F0 m 6 ls []) := by
    intro x1 x2 I6 m6 hB6 n
    induction n with
    | zero => intro x5 x6 p4_n p4_cells H locs ls _ hm; exact absurd hm (Nat.not_lt_zero _)
    | succ n ih =>
      intro x5 x6 p4_n p4_cells H locs ls hI hm hP hD hS hl
      obtain ⟨R6, h, rec6⟩ : ∃ R6 : Int32 → Int32 → Int32 → (Nat → Int32) → Prop, pX2_unpack_6 t_racks t_sizes K x1 x2 x5 x6 p4_n p4_cells R6 ∧ ∀ (x5 : Int32) (x6 : Int32) (p4_n : Int32) (p4_cells : Nat → Int32) (H : Heap) (locs : List Loc) (ls : Array Slot), R6 x5 x6 p4_n p4_cells → va_P G vwCl (w_X2_unpack Y h_t h_p4 B_t B_t_racks B_p4 t_racks t_sizes p4_n p4_cells) H → va_D A (w_X2_unpack Y h_t h_p4 B_t B_t_racks B_p4 t_racks t_sizes p4_n p4_cells) → va_S A s.heap H locs → lv_has ls 7 [(0, .ref h_t), (1, .int x1), (2, .int x2), (4, .ref h_p4), (5, .int x5), (6, .int x6)] → W p l e R s m args below meth c H locs 0 0 Q (F0 m 6 ls []) := ⟨_, hB6 x5 x6 p4_n p4_cells hI, fun x5 x6 p4_n p4_cells H locs ls hh hP hD hS hl => ih x5 x6 p4_n p4_cells H locs ls hh.1 (Nat.lt_of_lt_of_le hh.2 (Nat.le_of_lt_succ hm)) hP hD hS hl⟩
      have J57 : ∀ (x5 : Int32) (x6 : Int32) (p4_n : Int32) (p4_cells : Nat → Int32) (H : Heap) (locs : List Loc) (ls : Array Slot), pX2_unpack_57 t_racks t_sizes R6 K x1 x2 x5 x6 p4_n p4_cells → va_P G vwCl (w_X2_unpack Y h_t h_p4 B_t B_t_racks B_p4 t_racks t_sizes p4_n p4_cells) H → va_D A (w_X2_unpack Y h_t h_p4 B_t B_t_racks B_p4 t_racks t_sizes p4_n p4_cells) → va_S A s.heap H locs → lv_has ls 7 [(0, .ref h_t), (1, .int x1), (2, .int x2), (4, .ref h_p4), (5, .int x5), (6, .int x6)] → W p l e R s m args below meth c H locs 0 0 Q (F0 m 57 ls []) := by
        intro x5 x6 p4_n p4_cells H locs ls h hP hD hS hl
        refine lv_iinc (v := (x5 + (-1))) (lv' := [(5, .int (x5 + (-1))), (0, .ref h_t), (1, .int x1), (2, .int x2), (4, .ref h_p4), (6, .int x6)]) hx hb dX2_unpack_57 hl (k := 4) rfl rfl (by decide) rfl (fun ls hl => ?_)
        refine lv_iinc (v := (x6 + 1)) (lv' := [(6, .int (x6 + 1)), (5, .int (x5 + (-1))), (0, .ref h_t), (1, .int x1), (2, .int x2), (4, .ref h_p4)]) hx hb dX2_unpack_60 hl (k := 5) rfl rfl (by decide) rfl (fun ls hl => ?_)
        refine lv_goto (tgt := 6) hx hb dX2_unpack_63 (by decide) ?_
        exact rec6 (x5 + (-1)) (x6 + 1) p4_n p4_cells H locs ls h hP hD hS (lv_sub hl [2, 3, 4, 5, 1, 0] rfl)
      have J37 : ∀ (x5 : Int32) (x6 : Int32) (p4_n : Int32) (p4_cells : Nat → Int32) (H : Heap) (locs : List Loc) (ls : Array Slot), pX2_unpack_37 t_racks t_sizes R6 K x1 x2 x5 x6 p4_n p4_cells → va_P G vwCl (w_X2_unpack Y h_t h_p4 B_t B_t_racks B_p4 t_racks t_sizes p4_n p4_cells) H → va_D A (w_X2_unpack Y h_t h_p4 B_t B_t_racks B_p4 t_racks t_sizes p4_n p4_cells) → va_S A s.heap H locs → lv_has ls 7 [(0, .ref h_t), (1, .int x1), (2, .int x2), (4, .ref h_p4), (5, .int x5), (6, .int x6)] → W p l e R s m args below meth c H locs 0 0 Q (F0 m 37 ls []) := by
        intro x5 x6 p4_n p4_cells H locs ls h hP hD hS hl
        refine lv_iload hx hb dX2_unpack_37 (lv_at hl 4 rfl) ?_
        obtain ⟨ht, hf⟩ := h
        refine lv_if_ne (tgt := 57) hx hb dX2_unpack_39 (by decide) (fun c9 => ?_) (fun c9 => ?_)
        · have h := ht c9
          exact J57 x5 x6 p4_n p4_cells H locs ls h hP hD hS (lv_sub hl [0, 1, 2, 3, 4, 5] rfl)
        · have h := hf c9
          refine lv_iload_n hx hb dX2_unpack_42 rfl (lv_at hl 1 rfl) ?_
          refine lv_aload_n hx hb dX2_unpack_43 rfl (lv_at hl 0 rfl) ?_
          refine va_get (D := G) (ci := 2) (v := .ref (B_t 0)) (C := RX2) (T := TX2) (N := 3) hx hb hts inX2 hown hK hP 0 rfl rfl 0 (by decide) hf13 (fun _ h9 => h9) rfl dX2_unpack_44 ?_
          refine lv_iload_n hx hb dX2_unpack_47 rfl (lv_at hl 1 rfl) ?_
          obtain ⟨hin, h⟩ := h
          refine va_aldqA hx hb hK hP 1 3 rfl rfl hin dX2_unpack_48 ?_
          obtain ⟨j9, hj9, e9⟩ := vp_in_of hin (by decide)
          have e8 : Int32.toNatClampNeg x1 = j9 := by rw [e9]; exact nI_clamp (by omega)
          simp only [e8]
          have e70 : t_racks (Int32.toNatClampNeg x1) = t_racks j9 := by rw [e8]
          have e60 : ∀ v9, va_up t_racks (Int32.toNatClampNeg x1) v9 = va_up t_racks j9 v9 := by intro v9; rw [e8]
          try simp only [e70, e60] at h
          clear e70 e60
          clear hin e9
          rcases (show j9 = 0 ∨ j9 = 1 ∨ j9 = 2 ∨ j9 = 3 ∨ j9 = 4 by omega) with rfl | rfl | rfl | rfl | rfl
          · clear hj9
            refine W.eq (g2 := F0 m 49 ls [.ref (B_t_racks 0), .int x1]) rfl ?_
            refine lv_iload hx hb dX2_unpack_49 (lv_at hl 5 rfl) ?_
            obtain ⟨hin, h⟩ := h
            refine va_iald hx hb hK hP 2 0 rfl rfl hin dX2_unpack_51 ?_
            refine lv_aload hx hb dX2_unpack_52 (lv_at hl 3 rfl) ?_
            refine mc_vS ⟨hx, hb, hml, hown, hts⟩ hK hE hA hP hD hS (c_X2_unpackCells l G Y tF H.size h_p4 B_p4 p4_n p4_cells x1 ((t_racks 0) (Int32.toNatClampNeg x6)) h) (va_cwS 3 hts gX2_unpack_X2_unpackCells rfl rfl rfl (by decide +kernel) ⟨Nat.le_trans (by decide) hRf, Nat.le_trans (by decide) hRl⟩) (fun u => (w_X2_unpack Y h_t h_p4 B_t B_t_racks B_p4 t_racks t_sizes u.1 u.2)) [8, 9] [0, 1, 2, 3, 4, 5, 6, 7] [0, 1, 2, 3, 4, 5, 6, 7, 8, 9] rfl rfl rfl rfl (by decide) (fun _ => rfl) rfl rfl hl.1 rfl (Nat.le_of_ble_eq_true rfl) dX2_unpack_54 (fun u H locs h hP hD hS => ?_)
            obtain ⟨p4_n_54, p4_cells_54⟩ := u
            try dsimp only at h
            have hP : va_P G vwCl (w_X2_unpack Y h_t h_p4 B_t B_t_racks B_p4 t_racks t_sizes p4_n_54 p4_cells_54) H := hP
            have hD : va_D A (w_X2_unpack Y h_t h_p4 B_t B_t_racks B_p4 t_racks t_sizes p4_n_54 p4_cells_54) := hD
            exact J57 x5 x6 p4_n_54 p4_cells_54 H locs ls h hP hD hS (lv_sub hl [0, 1, 2, 3, 4, 5] rfl)
          · clear hj9
            refine W.eq (g2 := F0 m 49 ls [.ref (B_t_racks 1), .int x1]) rfl ?_
            refine lv_iload hx hb dX2_unpack_49 (lv_at hl 5 rfl) ?_
            obtain ⟨hin, h⟩ := h
            refine va_iald hx hb hK hP 3 0 rfl rfl hin dX2_unpack_51 ?_
            refine lv_aload hx hb dX2_unpack_52 (lv_at hl 3 rfl) ?_
            refine mc_vS ⟨hx, hb, hml, hown, hts⟩ hK hE hA hP hD hS (c_X2_unpackCells l G Y tF H.size h_p4 B_p4 p4_n p4_cells x1 ((t_racks 1) (Int32.toNatClampNeg x6)) h) (va_cwS 3 hts gX2_unpack_X2_unpackCells rfl rfl rfl (by decide +kernel) ⟨Nat.le_trans (by decide) hRf, Nat.le_trans (by decide) hRl⟩) (fun u => (w_X2_unpack Y h_t h_p4 B_t B_t_racks B_p4 t_racks t_sizes u.1 u.2)) [8, 9] [0, 1, 2, 3, 4, 5, 6, 7] [0, 1, 2, 3, 4, 5, 6, 7, 8, 9] rfl rfl rfl rfl (by decide) (fun _ => rfl) rfl rfl hl.1 rfl (Nat.le_of_ble_eq_true rfl) dX2_unpack_54 (fun u H locs h hP hD hS => ?_)
            obtain ⟨p4_n_54, p4_cells_54⟩ := u
            try dsimp only at h
            have hP : va_P G vwCl (w_X2_unpack Y h_t h_p4 B_t B_t_racks B_p4 t_racks t_sizes p4_n_54 p4_cells_54) H := hP
            have hD : va_D A (w_X2_unpack Y h_t h_p4 B_t B_t_racks B_p4 t_racks t_sizes p4_n_54 p4_cells_54) := hD
            exact J57 x5 x6 p4_n_54 p4_cells_54 H locs ls h hP hD hS (lv_sub hl [0, 1, 2, 3, 4, 5] rfl)
          · clear hj9
            refine W.eq (g2 := F0 m 49 ls [.ref (B_t_racks 2), .int x1]) rfl ?_
            refine lv_iload hx hb dX2_unpack_49 (lv_at hl 5 rfl) ?_
            obtain ⟨hin, h⟩ := h
            refine va_iald hx hb hK hP 4 0 rfl rfl hin dX2_unpack_51 ?_
            refine lv_aload hx hb dX2_unpack_52 (lv_at hl 3 rfl) ?_
            refine mc_vS ⟨hx, hb, hml, hown, hts⟩ hK hE hA hP hD hS (c_X2_unpackCells l G Y tF H.size h_p4 B_p4 p4_n p4_cells x1 ((t_racks 2) (Int32.toNatClampNeg x6)) h) (va_cwS 3 hts gX2_unpack_X2_unpackCells rfl rfl rfl (by decide +kernel) ⟨Nat.le_trans (by decide) hRf, Nat.le_trans (by decide) hRl⟩) (fun u => (w_X2_unpack Y h_t h_p4 B_t B_t_racks B_p4 t_racks t_sizes u.1 u.2)) [8, 9] [0, 1, 2, 3, 4, 5, 6, 7] [0, 1, 2, 3, 4, 5, 6, 7, 8, 9] rfl rfl rfl rfl (by decide) (fun _ => rfl) rfl rfl hl.1 rfl (Nat.le_of_ble_eq_true rfl) dX2_unpack_54 (fun u H locs h hP hD hS => ?_)
            obtain ⟨p4_n_54, p4_cells_54⟩ := u
            try dsimp only at h
            have hP : va_P G vwCl (w_X2_unpack Y h_t h_p4 B_t B_t_racks B_p4 t_racks t_sizes p4_n_54 p4_cells_54) H := hP
            have hD : va_D A (w_X2_unpack Y h_t h_p4 B_t B_t_racks B_p4 t_racks t_sizes p4_n_54 p4_cells_54) := hD
            exact J57 x5 x6 p4_n_54 p4_cells_54 H locs ls h hP hD hS (lv_sub hl [0, 1, 2, 3, 4, 5] rfl)
          · clear hj9
            refine W.eq (g2 := F0 m 49 ls [.ref (B_t_racks 3), .int x1]) rfl ?_
            refine lv_iload hx hb dX2_unpack_49 (lv_at hl 5 rfl) ?_
            obtain ⟨hin, h⟩ := h
            refine va_iald hx hb hK hP 5 0 rfl rfl hin dX2_unpack_51 ?_
            refine lv_aload hx hb dX2_unpack_52 (lv_at hl 3 rfl) ?_
            refine mc_vS ⟨hx, hb, hml, hown, hts⟩ hK hE hA hP hD hS (c_X2_unpackCells l G Y tF H.size h_p4 B_p4 p4_n p4_cells x1 ((t_racks 3) (Int32.toNatClampNeg x6)) h) (va_cwS 3 hts gX2_unpack_X2_unpackCells rfl rfl rfl (by decide +kernel) ⟨Nat.le_trans (by decide) hRf, Nat.le_trans (by decide) hRl⟩) (fun u => (w_X2_unpack Y h_t h_p4 B_t B_t_racks B_p4 t_racks t_sizes u.1 u.2)) [8, 9] [0, 1, 2, 3, 4, 5, 6, 7] [0, 1, 2, 3, 4, 5, 6, 7, 8, 9] rfl rfl rfl rfl (by decide) (fun _ => rfl) rfl rfl hl.1 rfl (Nat.le_of_ble_eq_true rfl) dX2_unpack_54 (fun u H locs h hP hD hS => ?_)
            obtain ⟨p4_n_54, p4_cells_54⟩ := u
            try dsimp only at h
            have hP : va_P G vwCl (w_X2_unpack Y h_t h_p4 B_t B_t_racks B_p4 t_racks t_sizes p4_n_54 p4_cells_54) H := hP
            have hD : va_D A (w_X2_unpack Y h_t h_p4 B_t B_t_racks B_p4 t_racks t_sizes p4_n_54 p4_cells_54) := hD
            exact J57 x5 x6 p4_n_54 p4_cells_54 H locs ls h hP hD hS (lv_sub hl [0, 1, 2, 3, 4, 5] rfl)
          · clear hj9
            refine W.eq (g2 := F0 m 49 ls [.ref (B_t_racks 4), .int x1]) rfl ?_
            refine lv_iload hx hb dX2_unpack_49 (lv_at hl 5 rfl) ?_
            obtain ⟨hin, h⟩ := h
            refine va_iald hx hb hK hP 6 0 rfl rfl hin dX2_unpack_51 ?_
            refine lv_aload hx hb dX2_unpack_52 (lv_at hl 3 rfl) ?_
            refine mc_vS ⟨hx, hb, hml, hown, hts⟩ hK hE hA hP hD hS (c_X2_unpackCells l G Y tF H.size h_p4 B_p4 p4_n p4_cells x1 ((t_racks 4) (Int32.toNatClampNeg x6)) h) (va_cwS 3 hts gX2_unpack_X2_unpackCells rfl rfl rfl (by decide +kernel) ⟨Nat.le_trans (by decide) hRf, Nat.le_trans (by decide) hRl⟩) (fun u => (w_X2_unpack Y h_t h_p4 B_t B_t_racks B_p4 t_racks t_sizes u.1 u.2)) [8, 9] [0, 1, 2, 3, 4, 5, 6, 7] [0, 1, 2, 3, 4, 5, 6, 7, 8, 9] rfl rfl rfl rfl (by decide) (fun _ => rfl) rfl rfl hl.1 rfl (Nat.le_of_ble_eq_true rfl) dX2_unpack_54 (fun u H locs h hP hD hS => ?_)
            obtain ⟨p4_n_54, p4_cells_54⟩ := u
            try dsimp only at h
            have hP : va_P G vwCl (w_X2_unpack Y h_t h_p4 B_t B_t_racks B_p4 t_racks t_sizes p4_n_54 p4_cells_54) H := hP
            have hD : va_D A (w_X2_unpack Y h_t h_p4 B_t B_t_racks B_p4 t_racks t_sizes p4_n_54 p4_cells_54) := hD
            exact J57 x5 x6 p4_n_54 p4_cells_54 H locs ls h hP hD hS (lv_sub hl [0, 1, 2, 3, 4, 5] rfl)
      refine lv_iload hx hb dX2_unpack_6 (lv_at hl 5 rfl) ?_
      refine lv_aload_n hx hb dX2_unpack_8 rfl (lv_at hl 0 rfl) ?_
      refine va_get (D := G) (ci := 2) (v := .ref (B_t 1)) (C := RX2) (T := TX2) (N := 3) hx hb hts inX2 hown hK hP 0 rfl rfl 1 (by decide) hf16 (fun _ h9 => h9) rfl dX2_unpack_9 ?_
      refine lv_iload_n hx hb dX2_unpack_12 rfl (lv_at hl 1 rfl) ?_
      obtain ⟨hin, h⟩ := h
      refine va_iald hx hb hK hP 7 0 rfl rfl hin dX2_unpack_13 ?_
      obtain ⟨ht, hf⟩ := h
      refine lv_icmp_ge (tgt := 66) hx hb dX2_unpack_14 (by decide) (fun c9 => ?_) (fun c9 => ?_)
      · have h := ht c9
        exact hret p4_n p4_cells H locs ls _ hP hD hS h dX2_unpack_66
      · have h := hf c9
        refine lv_iload_n hx hb dX2_unpack_17 rfl (lv_at hl 2 rfl) ?_
        obtain ⟨ht, hf⟩ := h
        refine lv_if_eq (tgt := 37) hx hb dX2_unpack_18 (by decide) (fun c9 => ?_) (fun c9 => ?_)
        · have h := ht c9
          exact J37 x5 x6 p4_n p4_cells H locs ls h hP hD hS (lv_sub hl [0, 1, 2, 3, 4, 5] rfl)
        · have h := hf c9
          refine lv_iload_n hx hb dX2_unpack_21 rfl (lv_at hl 1 rfl) ?_
          refine lv_aload_n hx hb dX2_unpack_22 rfl (lv_at hl 0 rfl) ?_
          refine va_get (D := G) (ci := 2) (v := .ref (B_t 0)) (C := RX2) (T := TX2) (N := 3) hx hb hts inX2 hown hK hP 0 rfl rfl 0 (by decide) hf13 (fun _ h9 => h9) rfl dX2_unpack_23 ?_
          refine lv_iload_n hx hb dX2_unpack_26 rfl (lv_at hl 1 rfl) ?_
          obtain ⟨hin, h⟩ := h
          refine va_aldqA hx hb hK hP 1 3 rfl rfl hin dX2_unpack_27 ?_
          obtain ⟨j9, hj9, e9⟩ := vp_in_of hin (by decide)
          have e8 : Int32.toNatClampNeg x1 = j9 := by rw [e9]; exact nI_clamp (by omega)
          simp only [e8]
          have e70 : t_racks (Int32.toNatClampNeg x1) = t_racks j9 := by rw [e8]
          have e60 : ∀ v9, va_up t_racks (Int32.toNatClampNeg x1) v9 = va_up t_racks j9 v9 := by intro v9; rw [e8]
          try simp only [e70, e60] at h
          clear e70 e60
          clear hin e9
          rcases (show j9 = 0 ∨ j9 = 1 ∨ j9 = 2 ∨ j9 = 3 ∨ j9 = 4 by omega) with rfl | rfl | rfl | rfl | rfl
          · clear hj9
            refine W.eq (g2 := F0 m 28 ls [.ref (B_t_racks 0), .int x1]) rfl ?_
            refine lv_iload hx hb dX2_unpack_28 (lv_at hl 5 rfl) ?_
            obtain ⟨hin, h⟩ := h
            refine va_iald hx hb hK hP 2 0 rfl rfl hin dX2_unpack_30 ?_
            refine mc_iS ⟨hx, hb, hml, hown, hts⟩ hK hE hA hP hD hS (c_X2_isQuandle l G Y tF H.size x1 ((t_racks 0) (Int32.toNatClampNeg x6)) h) (va_cwS 2 hts gX2_unpack_X2_isQuandle rfl rfl rfl (by decide +kernel) ⟨Nat.le_trans (by decide) hRf, Nat.le_trans (by decide) hRl⟩) (fun u => (w_X2_unpack Y h_t h_p4 B_t B_t_racks B_p4 t_racks t_sizes p4_n p4_cells)) [] [0, 1, 2, 3, 4, 5, 6, 7, 8, 9] [0, 1, 2, 3, 4, 5, 6, 7, 8, 9] rfl rfl rfl rfl (by decide) (fun _ => rfl) rfl rfl hl.1 rfl (Nat.le_of_ble_eq_true rfl) dX2_unpack_31 (fun r31 u H locs h hP hD hS => ?_)
            try dsimp only at h
            have hP : va_P G vwCl (w_X2_unpack Y h_t h_p4 B_t B_t_racks B_p4 t_racks t_sizes p4_n p4_cells) H := hP
            have hD : va_D A (w_X2_unpack Y h_t h_p4 B_t B_t_racks B_p4 t_racks t_sizes p4_n p4_cells) := hD
            obtain ⟨ht, hf⟩ := h
            refine lv_if_eq (tgt := 60) hx hb dX2_unpack_34 (by decide) (fun c9 => ?_) (fun c9 => ?_)
            · have h := ht c9
              refine lv_iinc (v := (x6 + 1)) (lv' := [(6, .int (x6 + 1)), (0, .ref h_t), (1, .int x1), (2, .int x2), (4, .ref h_p4), (5, .int x5)]) hx hb dX2_unpack_60 hl (k := 5) rfl rfl (by decide) rfl (fun ls hl => ?_)
              refine lv_goto (tgt := 6) hx hb dX2_unpack_63 (by decide) ?_
              exact rec6 x5 (x6 + 1) p4_n p4_cells H locs ls h hP hD hS (lv_sub hl [1, 2, 3, 4, 5, 0] rfl)
            · have h := hf c9
              exact J37 x5 x6 p4_n p4_cells H locs ls h hP hD hS (lv_sub hl [0, 1, 2, 3, 4, 5] rfl)
          · clear hj9
            refine W.eq (g2 := F0 m 28 ls [.ref (B_t_racks 1), .int x1]) rfl ?_
            refine lv_iload hx hb dX2_unpack_28 (lv_at hl 5 rfl) ?_
            obtain ⟨hin, h⟩ := h
            refine va_iald hx hb hK hP 3 0 rfl rfl hin dX2_unpack_30 ?_
            refine mc_iS ⟨hx, hb, hml, hown, hts⟩ hK hE hA hP hD hS (c_X2_isQuandle l G Y tF H.size x1 ((t_racks 1) (Int32.toNatClampNeg x6)) h) (va_cwS 2 hts gX2_unpack_X2_isQuandle rfl rfl rfl (by decide +kernel) ⟨Nat.le_trans (by decide) hRf, Nat.le_trans (by decide) hRl⟩) (fun u => (w_X2_unpack Y h_t h_p4 B_t B_t_racks B_p4 t_racks t_sizes p4_n p4_cells)) [] [0, 1, 2, 3, 4, 5, 6, 7, 8, 9] [0, 1, 2, 3, 4, 5, 6, 7, 8, 9] rfl rfl rfl rfl (by decide) (fun _ => rfl) rfl rfl hl.1 rfl (Nat.le_of_ble_eq_true rfl) dX2_unpack_31 (fun r31 u H locs h hP hD hS => ?_)
            try dsimp only at h
            have hP : va_P G vwCl (w_X2_unpack Y h_t h_p4 B_t B_t_racks B_p4 t_racks t_sizes p4_n p4_cells) H := hP
            have hD : va_D A (w_X2_unpack Y h_t h_p4 B_t B_t_racks B_p4 t_racks t_sizes p4_n p4_cells) := hD
            obtain ⟨ht, hf⟩ := h
            refine lv_if_eq (tgt := 60) hx hb dX2_unpack_34 (by decide) (fun c9 => ?_) (fun c9 => ?_)
            · have h := ht c9
              refine lv_iinc (v := (x6 + 1)) (lv' := [(6, .int (x6 + 1)), (0, .ref h_t), (1, .int x1), (2, .int x2), (4, .ref h_p4), (5, .int x5)]) hx hb dX2_unpack_60 hl (k := 5) rfl rfl (by decide) rfl (fun ls hl => ?_)
              refine lv_goto (tgt := 6) hx hb dX2_unpack_63 (by decide) ?_
              exact rec6 x5 (x6 + 1) p4_n p4_cells H locs ls h hP hD hS (lv_sub hl [1, 2, 3, 4, 5, 0] rfl)
            · have h := hf c9
              exact J37 x5 x6 p4_n p4_cells H locs ls h hP hD hS (lv_sub hl [0, 1, 2, 3, 4, 5] rfl)
          · clear hj9
            refine W.eq (g2 := F0 m 28 ls [.ref (B_t_racks 2), .int x1]) rfl ?_
            refine lv_iload hx hb dX2_unpack_28 (lv_at hl 5 rfl) ?_
            obtain ⟨hin, h⟩ := h
            refine va_iald hx hb hK hP 4 0 rfl rfl hin dX2_unpack_30 ?_
            refine mc_iS ⟨hx, hb, hml, hown, hts⟩ hK hE hA hP hD hS (c_X2_isQuandle l G Y tF H.size x1 ((t_racks 2) (Int32.toNatClampNeg x6)) h) (va_cwS 2 hts gX2_unpack_X2_isQuandle rfl rfl rfl (by decide +kernel) ⟨Nat.le_trans (by decide) hRf, Nat.le_trans (by decide) hRl⟩) (fun u => (w_X2_unpack Y h_t h_p4 B_t B_t_racks B_p4 t_racks t_sizes p4_n p4_cells)) [] [0, 1, 2, 3, 4, 5, 6, 7, 8, 9] [0, 1, 2, 3, 4, 5, 6, 7, 8, 9] rfl rfl rfl rfl (by decide) (fun _ => rfl) rfl rfl hl.1 rfl (Nat.le_of_ble_eq_true rfl) dX2_unpack_31 (fun r31 u H locs h hP hD hS => ?_)
            try dsimp only at h
            have hP : va_P G vwCl (w_X2_unpack Y h_t h_p4 B_t B_t_racks B_p4 t_racks t_sizes p4_n p4_cells) H := hP
            have hD : va_D A (w_X2_unpack Y h_t h_p4 B_t B_t_racks B_p4 t_racks t_sizes p4_n p4_cells) := hD
            obtain ⟨ht, hf⟩ := h
            refine lv_if_eq (tgt := 60) hx hb dX2_unpack_34 (by decide) (fun c9 => ?_) (fun c9 => ?_)
            · have h := ht c9
              refine lv_iinc (v := (x6 + 1)) (lv' := [(6, .int (x6 + 1)), (0, .ref h_t), (1, .int x1), (2, .int x2), (4, .ref h_p4), (5, .int x5)]) hx hb dX2_unpack_60 hl (k := 5) rfl rfl (by decide) rfl (fun ls hl => ?_)
              refine lv_goto (tgt := 6) hx hb dX2_unpack_63 (by decide) ?_
              exact rec6 x5 (x6 + 1) p4_n p4_cells H locs ls h hP hD hS (lv_sub hl [1, 2, 3, 4, 5, 0] rfl)
            · have h := hf c9
              exact J37 x5 x6 p4_n p4_cells H locs ls h hP hD hS (lv_sub hl [0, 1, 2, 3, 4, 5] rfl)
          · clear hj9
            refine W.eq (g2 := F0 m 28 ls [.ref (B_t_racks 3), .int x1]) rfl ?_
            refine lv_iload hx hb dX2_unpack_28 (lv_at hl 5 rfl) ?_
            obtain ⟨hin, h⟩ := h
            refine va_iald hx hb hK hP 5 0 rfl rfl hin dX2_unpack_30 ?_
            refine mc_iS ⟨hx, hb, hml, hown, hts⟩ hK hE hA hP hD hS (c_X2_isQuandle l G Y tF H.size x1 ((t_racks 3) (Int32.toNatClampNeg x6)) h) (va_cwS 2 hts gX2_unpack_X2_isQuandle rfl rfl rfl (by decide +kernel) ⟨Nat.le_trans (by decide) hRf, Nat.le_trans (by decide) hRl⟩) (fun u => (w_X2_unpack Y h_t h_p4 B_t B_t_racks B_p4 t_racks t_sizes p4_n p4_cells)) [] [0, 1, 2, 3, 4, 5, 6, 7, 8, 9] [0, 1, 2, 3, 4, 5, 6, 7, 8, 9] rfl rfl rfl rfl (by decide) (fun _ => rfl) rfl rfl hl.1 rfl (Nat.le_of_ble_eq_true rfl) dX2_unpack_31 (fun r31 u H locs h hP hD hS => ?_)
            try dsimp only at h
            have hP : va_P G vwCl (w_X2_unpack Y h_t h_p4 B_t B_t_racks B_p4 t_racks t_sizes p4_n p4_cells) H := hP
            have hD : va_D A (w_X2_unpack Y h_t h_p4 B_t B_t_racks B_p4 t_racks t_sizes p4_n p4_cells) := hD
            obtain ⟨ht, hf⟩ := h
            refine lv_if_eq (tgt := 60) hx hb dX2_unpack_34 (by decide) (fun c9 => ?_) (fun c9 => ?_)
            · have h := ht c9
              refine lv_iinc (v := (x6 + 1)) (lv' := [(6, .int (x6 + 1)), (0, .ref h_t), (1, .int x1), (2, .int x2), (4, .ref h_p4), (5, .int x5)]) hx hb dX2_unpack_60 hl (k := 5) rfl rfl (by decide) rfl (fun ls hl => ?_)
              refine lv_goto (tgt := 6) hx hb dX2_unpack_63 (by decide) ?_
              exact rec6 x5 (x6 + 1) p4_n p4_cells H locs ls h hP hD hS (lv_sub hl [1, 2, 3, 4, 5, 0] rfl)
            · have h := hf c9
              exact J37 x5 x6 p4_n p4_cells H locs ls h hP hD hS (lv_sub hl [0, 1, 2, 3, 4, 5] rfl)
          · clear hj9
            refine W.eq (g2 := F0 m 28 ls [.ref (B_t_racks 4), .int x1]) rfl ?_
            refine lv_iload hx hb dX2_unpack_28 (lv_at hl 5 rfl) ?_
            obtain ⟨hin, h⟩ := h
            refine va_iald hx hb hK hP 6 0 rfl rfl hin dX2_unpack_30 ?_
            refine mc_iS ⟨hx, hb, hml, hown, hts⟩ hK hE hA hP hD hS (c_X2_isQuandle l G Y tF H.size x1 ((t_racks 4) (Int32.toNatClampNeg x6)) h) (va_cwS 2 hts gX2_unpack_X2_isQuandle rfl rfl rfl (by decide +kernel) ⟨Nat.le_trans (by decide) hRf, Nat.le_trans (by decide) hRl⟩) (fun u => (w_X2_unpack Y h_t h_p4 B_t B_t_racks B_p4 t_racks t_sizes p4_n p4_cells)) [] [0, 1, 2, 3, 4, 5, 6, 7, 8, 9] [0, 1, 2, 3, 4, 5, 6, 7, 8, 9] rfl rfl rfl rfl (by decide) (fun _ => rfl) rfl rfl hl.1 rfl (Nat.le_of_ble_eq_true rfl) dX2_unpack_31 (fun r31 u H locs h hP hD hS => ?_)
            try dsimp only at h
            have hP : va_P G vwCl (w_X2_unpack Y h_t h_p4 B_t B_t_racks B_p4 t_racks t_sizes p4_n p4_cells) H := hP
            have hD : va_D A (w_X2_unpack Y h_t h_p4 B_t B_t_racks B_p4 t_racks t_sizes p4_n p4_cells) := hD
            obtain ⟨ht, hf⟩ := h
            refine lv_if_eq (tgt := 60) hx hb dX2_unpack_34 (by decide) (fun c9 => ?_) (fun c9 => ?_)
            · have h := ht c9
              refine lv_iinc (v := (x6 + 1)) (lv' := [(6, .int (x6 + 1)), (0, .ref h_t), (1, .int x1), (2, .int x2), (4, .ref h_p4), (5, .int x5)]) hx hb dX2_unpack_60 hl (k := 5) rfl rfl (by decide) rfl (fun ls hl => ?_)
              refine lv_goto (tgt := 6) hx hb dX2_unpack_63 (by decide) ?_
              exact rec6 x5 (x6 + 1) p4_n p4_cells H locs ls h hP hD hS (lv_sub hl [1, 2, 3, 4, 5, 0] rfl)
            · have h := hf c9
              exact J37 x5 x6 p4_n p4_cells H locs ls h hP hD hS (lv_sub hl [0, 1, 2, 3, 4, 5] rfl)
  exact L6 x1 x2 I6 m6 hB6 _ x3 (0 : Int32) p4_n p4_cells H locs ls hI6 (Nat.lt_succ_self _) hP hD hS (lv_sub hl [2, 3, 4, 6, 1, 0] rfl)

set_option maxHeartbeats 4000000 in
set_option maxRecDepth 100000 in
theorem c_X2_unpack (l : Launch) (G : va_G) (Y : Nat → ClassId) (tF sz : Nat) (h_t : Nat) (h_p4 : Nat) (B_t : Nat → Nat) (B_t_racks : Nat → Nat) (B_p4 : Nat → Nat) (t_racks : Nat → Nat → Int32) (t_sizes : Nat → Int32) (p4_n : Int32) (p4_cells : Nat → Int32) (x1 : Int32) (x2 : Int32) (x3 : Int32) {K : Int32 → (Nat → Int32) → Prop} (h : pX2_unpack t_racks t_sizes p4_n p4_cells x1 x2 x3 K) : Met l yX2_unpack wsX2_unpack ({ frames := 2, cells := 0, slots := 0, locals := 47 }) (PcM G Y tF sz (w_X2_unpack Y h_t h_p4 B_t B_t_racks B_p4 t_racks t_sizes p4_n p4_cells) [.ref h_t, .int x1, .int x2, .int x3, .ref h_p4]) (va_Qv (fun u : Int32 × (Nat → Int32) => K u.1 u.2) (fun u t => BM G Y (va_A (w_X2_unpack Y h_t h_p4 B_t B_t_racks B_p4 t_racks t_sizes p4_n p4_cells) sz) (w_X2_unpack Y h_t h_p4 B_t B_t_racks B_p4 t_racks t_sizes u.1 u.2) t) (va_A (w_X2_unpack Y h_t h_p4 B_t B_t_racks B_p4 t_racks t_sizes p4_n p4_cells) sz)) 0 0 (va_A (w_X2_unpack Y h_t h_p4 B_t B_t_racks B_p4 t_racks t_sizes p4_n p4_cells) sz) := by
  refine Met.ofW (cc := cX2_unpack) (maxL := 7) (ret := none) (by decide +kernel) rfl ?_
  intro p e s m args below meth c s₁ B hml hv
  obtain ⟨rfl, hsz, hP, hK, hD0, hE⟩ := hv
  have hts := atoms_spec (ws := wsX2_unpack) B.pre
  have hown : s.vm.findClass RX2 = some m.cls := findClass_of_methodNamed B.named
  have hlocks := B.notSynchronized
  subst hsz
  have hD := hD0.self (sz := s.heap.size)
  exact wk_X2_unpack h_t h_p4 B_t B_t_racks B_p4 t_racks t_sizes p4_n p4_cells x1 x2 x3 B.exec B.bytes hml hown hts hK hE (fun q h => Or.inr h) (Nat.le_refl _) (Nat.le_refl _) (fun p4_n p4_cells H locs ls pc hP hD hS hk hd => W.vret B.exec B.bytes B.returns (fun t ht hW => ⟨⟨(p4_n, p4_cells), rfl, hk, by rw [ht]; exact hP, va_K.moved hW.alike hK, hD⟩, hS.F ht⟩) hS.2.2 hd) hP hD h
