abbrev w_X3_tellSigns (Y : Nat → ClassId) (h_p0 : Nat) (h_p1 : Nat) (B_p0 : Nat → Nat) (N_p1 : Nat) (p0_n : Int32) (p0_cells : Nat → Int32) (p1 : Nat → Int32) : va_W := [(h_p0, .inr (6, [.ref (B_p0 0), .int p0_n])), ((B_p0 0), .inl (Y 0, 64, .inl p0_cells)), (h_p1, .inl (Y 0, N_p1, .inl p1))]

set_option maxHeartbeats 4000000 in
set_option maxRecDepth 100000 in
theorem wk_X3_tellSigns {p : Program} {l : Launch} {e : Env} {R : Room} {s : State} {m : MethodId} {args : Array Value} {below : List Frame} {meth : Method} {c : Code} {Q : State → Prop} {G : va_G} {Y : Nat → ClassId} {tF : Nat} {A : Nat → Prop} (h_p0 : Nat) (h_p1 : Nat) (B_p0 : Nat → Nat) (N_p1 : Nat) (p0_n : Int32) (p0_cells : Nat → Int32) (p1 : Nat → Int32) {K : (Nat → Int32) → Prop} (hx : p.tables.exec = Jvm.exec) (hb : c.code = cX3_tellSigns) (hml : c.maxLocals = 5) (hown : s.vm.findClass RX3 = some m.cls) (hts : ∀ w ∈ wsX3_tellSigns, w.before args s = true) (hK : va_K G vwCl (tyL Y) s) (hE : Ev A tF s) (hA : ∀ q, s.heap.size ≤ q → A q) (hRf : 1 ≤ R.frames) (hRl : 23 ≤ R.locals) (hret : ∀ (p1 : Nat → Int32) (H : Heap) (locs : List Loc) (ls : Array Slot) (pc : Nat), va_P G vwCl (w_X3_tellSigns Y h_p0 h_p1 B_p0 N_p1 p0_n p0_cells p1) H → va_D A (w_X3_tellSigns Y h_p0 h_p1 B_p0 N_p1 p0_n p0_cells p1) → va_S A s.heap H locs → K p1 → decode cX3_tellSigns pc = .ok (.return_, 1) → W p l e R s m args below meth c H locs 0 0 Q (F0 m pc ls [])) (hP : va_P G vwCl (w_X3_tellSigns Y h_p0 h_p1 B_p0 N_p1 p0_n p0_cells p1) s.heap) (hD : va_D A (w_X3_tellSigns Y h_p0 h_p1 B_p0 N_p1 p0_n p0_cells p1)) (h : pX3_tellSigns N_p1 p0_n p0_cells p1 K) : W p l e R s m args below meth c s.heap [] 0 0 Q (entryFrame m ([.ref h_p0, .ref h_p1] : List Value).toArray 5) := by
  have inX7 : ∀ w ∈ u_ws RX7 TX7 2, w ∈ wsX3_tellSigns := by decide +kernel
  have hc55 := hts (.constant RX3 55 (32768)) (by decide +kernel)
  have hl := lv_entry ([.ref h_p0, .ref h_p1]) (n := 5) (Nat.le_of_ble_eq_true rfl)
  rw [lg_entry_eq]
  generalize (lg_sl ([.ref h_p0, .ref h_p1]) ++ List.replicate (5 - (lg_sl ([.ref h_p0, .ref h_p1])).length) Slot.unset).toArray = ls at hl ⊢
  have hl : lv_has ls 5 [(0, .ref h_p0), (1, .ref h_p1)] := hl
  generalize hH0 : s.heap = H at hP ⊢
  have hS : va_S A s.heap H [] := by rw [← hH0]; exact va_S.rf
  clear hH0
  generalize ([] : List Loc) = locs at hS ⊢
  refine lv_aload_n hx hb dX3_tellSigns_0 rfl (lv_at hl 1 rfl) ?_
  refine lv_iconst (v := 0) hx hb dX3_tellSigns_1 (by decide) ?_
  refine mc_vS ⟨hx, hb, hml, hown, hts⟩ hK hE hA hP hD hS (c_J7_fill_53178 l G Y tF H.size h_p1 N_p1 p1 (0 : Int32) h) (va_cwS 2 hts gX3_tellSigns_J7_fill_53178 rfl rfl rfl (by decide +kernel) ⟨Nat.le_trans (by decide) hRf, Nat.le_trans (by decide) hRl⟩) (fun u => (w_X3_tellSigns Y h_p0 h_p1 B_p0 N_p1 p0_n p0_cells u)) [2] [0, 1] [0, 1, 2] rfl rfl rfl rfl (by decide) (fun _ => rfl) rfl rfl hl.1 rfl (Nat.le_of_ble_eq_true rfl) dX3_tellSigns_2 (fun u H locs h hP hD hS => ?_)
  obtain ⟨p1_2, rfl⟩ : ∃ z, z = u := ⟨_, rfl⟩
  try dsimp only at h
  have hP : va_P G vwCl (w_X3_tellSigns Y h_p0 h_p1 B_p0 N_p1 p0_n p0_cells p1_2) H := hP
  have hD : va_D A (w_X3_tellSigns Y h_p0 h_p1 B_p0 N_p1 p0_n p0_cells p1_2) := hD
  refine lv_iconst (v := 0) hx hb dX3_tellSigns_5 (by decide) ?_
  refine lv_istore_n (lv' := [(2, .int (0 : Int32)), (0, .ref h_p0), (1, .ref h_p1)]) hx hb dX3_tellSigns_6 rfl hl (by decide) rfl (fun ls hl => ?_)
  obtain ⟨I7, m7, hI7, hB7⟩ := h
  have L7 : ∀  (I7 : Int32 → (Nat → Int32) → Prop) (m7 : Int32 → (Nat → Int32) → Nat), (∀ (x2 : Int32) (p1 : Nat → Int32), I7 x2 p1 → pX3_tellSigns_7 N_p1 p0_n p0_cells K x2 p1 (fun x2' p1' => I7 x2' p1' ∧ m7 x2' p1' < m7 x2 p1)) → ∀ (n : Nat) (x2 : Int32) (p1 : Nat → Int32) (H : Heap) (locs : List Loc) (ls : Array Slot), I7 x2 p1 → m7 x2 p1 < n → va_P G vwCl (w_X3_tellSigns Y h_p0 h_p1 B_p0 N_p1 p0_n p0_cells p1) H → va_D A (w_X3_tellSigns Y h_p0 h_p1 B_p0 N_p1 p0_n p0_cells p1) → va_S A s.heap H locs → lv_has ls 5 [(0, .ref h_p0), (1, .ref h_p1), (2, .int x2)] → W p l e R s m args below meth c H locs 0 0 Q (F0 m 7 ls []) := by
    intro  I7 m7 hB7 n
    induction n with
    | zero => intro x2 p1 H locs ls _ hm; exact absurd hm (Nat.not_lt_zero _)
    | succ n ih =>
      intro x2 p1 H locs ls hI hm hP hD hS hl
      obtain ⟨R7, h, rec7⟩ : ∃ R7 : Int32 → (Nat → Int32) → Prop, pX3_tellSigns_7 N_p1 p0_n p0_cells K x2 p1 R7 ∧ ∀ (x2 : Int32) (p1 : Nat → Int32) (H : Heap) (locs : List Loc) (ls : Array Slot), R7 x2 p1 → va_P G vwCl (w_X3_tellSigns Y h_p0 h_p1 B_p0 N_p1 p0_n p0_cells p1) H → va_D A (w_X3_tellSigns Y h_p0 h_p1 B_p0 N_p1 p0_n p0_cells p1) → va_S A s.heap H locs → lv_has ls 5 [(0, .ref h_p0), (1, .ref h_p1), (2, .int x2)] → W p l e R s m args below meth c H locs 0 0 Q (F0 m 7 ls []) := ⟨_, hB7 x2 p1 hI, fun x2 p1 H locs ls hh hP hD hS hl => ih x2 p1 H locs ls hh.1 (Nat.lt_of_lt_of_le hh.2 (Nat.le_of_lt_succ hm)) hP hD hS hl⟩
      refine lv_iload_n hx hb dX3_tellSigns_7 rfl (lv_at hl 2 rfl) ?_
      refine lv_aload_n hx hb dX3_tellSigns_8 rfl (lv_at hl 0 rfl) ?_
      refine va_getN (D := G) (ci := 6) (v := .int p0_n) (C := RX7) (T := TX7) (N := 2) hx hb hts inX7 hown hK hP 0 rfl rfl 1 (by decide) (hE.nest args 9 _ rfl) (fun _ h9 => h9) rfl dX3_tellSigns_9 ?_
      obtain ⟨ht, hf⟩ := h
      refine lv_icmp_ge (tgt := 96) hx hb dX3_tellSigns_12 (by decide) (fun c9 => ?_) (fun c9 => ?_)
      · have h := ht c9
        exact hret p1 H locs ls _ hP hD hS h dX3_tellSigns_96
      · have h := hf c9
        refine lv_iconst (v := 0) hx hb dX3_tellSigns_15 (by decide) ?_
        refine lv_istore_n (lv' := [(3, .int (0 : Int32)), (0, .ref h_p0), (1, .ref h_p1), (2, .int x2)]) hx hb dX3_tellSigns_16 rfl hl (by decide) rfl (fun ls hl => ?_)
        obtain ⟨I17, m17, hI17, hB17⟩ := h
        have L17 : ∀ (x2 : Int32) (I17 : Int32 → (Nat → Int32) → Prop) (m17 : Int32 → (Nat → Int32) → Nat), (∀ (x3 : Int32) (p1 : Nat → Int32), I17 x3 p1 → pX3_tellSigns_17 N_p1 p0_n p0_cells R7 K x2 x3 p1 (fun x3' p1' => I17 x3' p1' ∧ m17 x3' p1' < m17 x3 p1)) → ∀ (n : Nat) (x3 : Int32) (p1 : Nat → Int32) (H : Heap) (locs : List Loc) (ls : Array Slot), I17 x3 p1 → m17 x3 p1 < n → va_P G vwCl (w_X3_tellSigns Y h_p0 h_p1 B_p0 N_p1 p0_n p0_cells p1) H → va_D A (w_X3_tellSigns Y h_p0 h_p1 B_p0 N_p1 p0_n p0_cells p1) → va_S A s.heap H locs → lv_has ls 5 [(0, .ref h_p0), (1, .ref h_p1), (2, .int x2), (3, .int x3)] → W p l e R s m args below meth c H locs 0 0 Q (F0 m 17 ls []) := by
          intro x2 I17 m17 hB17 n
          induction n with
          | zero => intro x3 p1 H locs ls _ hm; exact absurd hm (Nat.not_lt_zero _)
          | succ n ih =>
            intro x3 p1 H locs ls hI hm hP hD hS hl
            obtain ⟨R17, h, rec17⟩ : ∃ R17 : Int32 → (Nat → Int32) → Prop, pX3_tellSigns_17 N_p1 p0_n p0_cells R7 K x2 x3 p1 R17 ∧ ∀ (x3 : Int32) (p1 : Nat → Int32) (H : Heap) (locs : List Loc) (ls : Array Slot), R17 x3 p1 → va_P G vwCl (w_X3_tellSigns Y h_p0 h_p1 B_p0 N_p1 p0_n p0_cells p1) H → va_D A (w_X3_tellSigns Y h_p0 h_p1 B_p0 N_p1 p0_n p0_cells p1) → va_S A s.heap H locs → lv_has ls 5 [(0, .ref h_p0), (1, .ref h_p1), (2, .int x2), (3, .int x3)] → W p l e R s m args below meth c H locs 0 0 Q (F0 m 17 ls []) := ⟨_, hB17 x3 p1 hI, fun x3 p1 H locs ls hh hP hD hS hl => ih x3 p1 H locs ls hh.1 (Nat.lt_of_lt_of_le hh.2 (Nat.le_of_lt_succ hm)) hP hD hS hl⟩
            have J65 : ∀ (x3 : Int32) (x4 : Int32) (p1 : Nat → Int32) (H : Heap) (locs : List Loc) (ls : Array Slot), pX3_tellSigns_65 N_p1 p0_n p0_cells R7 R17 K x2 x3 x4 p1 → va_P G vwCl (w_X3_tellSigns Y h_p0 h_p1 B_p0 N_p1 p0_n p0_cells p1) H → va_D A (w_X3_tellSigns Y h_p0 h_p1 B_p0 N_p1 p0_n p0_cells p1) → va_S A s.heap H locs → lv_has ls 5 [(0, .ref h_p0), (1, .ref h_p1), (2, .int x2), (3, .int x3), (4, .int x4)] → W p l e R s m args below meth c H locs 0 0 Q (F0 m 65 ls []) := by
              intro x3 x4 p1 H locs ls h hP hD hS hl
              refine lv_iload hx hb dX3_tellSigns_65 (lv_at hl 4 rfl) ?_
              refine lv_iload_n hx hb dX3_tellSigns_67 rfl (lv_at hl 3 rfl) ?_
              obtain ⟨ht, hf⟩ := h
              refine lv_icmp_ne (tgt := 84) hx hb dX3_tellSigns_68 (by decide) (fun c9 => ?_) (fun c9 => ?_)
              · have h := ht c9
                refine lv_iinc (v := (x3 + 1)) (lv' := [(3, .int (x3 + 1)), (0, .ref h_p0), (1, .ref h_p1), (2, .int x2), (4, .int x4)]) hx hb dX3_tellSigns_84 hl (k := 3) rfl rfl (by decide) rfl (fun ls hl => ?_)
                refine lv_goto (tgt := 17) hx hb dX3_tellSigns_87 (by decide) ?_
                exact rec17 (x3 + 1) p1 H locs ls h hP hD hS (lv_sub hl [1, 2, 3, 0] rfl)
              · have h := hf c9
                refine lv_iload_n hx hb dX3_tellSigns_71 rfl (lv_at hl 2 rfl) ?_
                refine lv_iload_n hx hb dX3_tellSigns_72 rfl (lv_at hl 3 rfl) ?_
                obtain ⟨ht, hf⟩ := h
                refine lv_icmp_ne (tgt := 84) hx hb dX3_tellSigns_73 (by decide) (fun c9 => ?_) (fun c9 => ?_)
                · have h := ht c9
                  refine lv_iinc (v := (x3 + 1)) (lv' := [(3, .int (x3 + 1)), (0, .ref h_p0), (1, .ref h_p1), (2, .int x2), (4, .int x4)]) hx hb dX3_tellSigns_84 hl (k := 3) rfl rfl (by decide) rfl (fun ls hl => ?_)
                  refine lv_goto (tgt := 17) hx hb dX3_tellSigns_87 (by decide) ?_
                  exact rec17 (x3 + 1) p1 H locs ls h hP hD hS (lv_sub hl [1, 2, 3, 0] rfl)
                · have h := hf c9
                  refine lv_aload_n hx hb dX3_tellSigns_76 rfl (lv_at hl 1 rfl) ?_
                  refine lv_iload_n hx hb dX3_tellSigns_77 rfl (lv_at hl 2 rfl) ?_
                  refine lv_dup2_11 hx hb dX3_tellSigns_78 rfl rfl ?_
                  obtain ⟨hin, h⟩ := h
                  refine va_iald hx hb hK hP 2 0 rfl rfl hin dX3_tellSigns_79 ?_
                  refine lv_ldc (v := 32768) hx hb hown hc55 dX3_tellSigns_80 ?_
                  refine lv_iadd hx hb dX3_tellSigns_82 ?_
                  obtain ⟨hin, h⟩ := h
                  refine va_iast hx hb hK hP hD hS 2 0 rfl rfl hin dX3_tellSigns_83 (fun H locs hP hD hS => ?_)
                  have hP : va_P G vwCl (w_X3_tellSigns Y h_p0 h_p1 B_p0 N_p1 p0_n p0_cells (upd p1 (Int32.toNatClampNeg x2) ((p1 (Int32.toNatClampNeg x2)) + (32768 : Int32)))) H := hP
                  have hD : va_D A (w_X3_tellSigns Y h_p0 h_p1 B_p0 N_p1 p0_n p0_cells (upd p1 (Int32.toNatClampNeg x2) ((p1 (Int32.toNatClampNeg x2)) + (32768 : Int32)))) := hD
                  refine lv_iinc (v := (x3 + 1)) (lv' := [(3, .int (x3 + 1)), (0, .ref h_p0), (1, .ref h_p1), (2, .int x2), (4, .int x4)]) hx hb dX3_tellSigns_84 hl (k := 3) rfl rfl (by decide) rfl (fun ls hl => ?_)
                  refine lv_goto (tgt := 17) hx hb dX3_tellSigns_87 (by decide) ?_
                  exact rec17 (x3 + 1) (upd p1 (Int32.toNatClampNeg x2) ((p1 (Int32.toNatClampNeg x2)) + (32768 : Int32))) H locs ls h hP hD hS (lv_sub hl [1, 2, 3, 0] rfl)
            refine lv_iload_n hx hb dX3_tellSigns_17 rfl (lv_at hl 3 rfl) ?_
            refine lv_aload_n hx hb dX3_tellSigns_18 rfl (lv_at hl 0 rfl) ?_
            refine va_getN (D := G) (ci := 6) (v := .int p0_n) (C := RX7) (T := TX7) (N := 2) hx hb hts inX7 hown hK hP 0 rfl rfl 1 (by decide) (hE.nest args 9 _ rfl) (fun _ h9 => h9) rfl dX3_tellSigns_19 ?_
            obtain ⟨ht, hf⟩ := h
            refine lv_icmp_ge (tgt := 90) hx hb dX3_tellSigns_22 (by decide) (fun c9 => ?_) (fun c9 => ?_)
            · have h := ht c9
              refine lv_iinc (v := (x2 + 1)) (lv' := [(2, .int (x2 + 1)), (0, .ref h_p0), (1, .ref h_p1), (3, .int x3)]) hx hb dX3_tellSigns_90 hl (k := 2) rfl rfl (by decide) rfl (fun ls hl => ?_)
              refine lv_goto (tgt := 7) hx hb dX3_tellSigns_93 (by decide) ?_
              exact rec7 (x2 + 1) p1 H locs ls h hP hD hS (lv_sub hl [1, 2, 0] rfl)
            · have h := hf c9
              refine lv_aload_n hx hb dX3_tellSigns_25 rfl (lv_at hl 0 rfl) ?_
              refine lv_iload_n hx hb dX3_tellSigns_26 rfl (lv_at hl 2 rfl) ?_
              refine lv_iload_n hx hb dX3_tellSigns_27 rfl (lv_at hl 3 rfl) ?_
              refine mc_iV ⟨hx, hb, hml, hown, hts⟩ hK hE hA hP hD hS (c_X7_turned l G Y tF H.size h_p0 B_p0 p0_n p0_cells x2 x3 h) (cwV 2 hts gX3_tellSigns_X7_turned rfl rfl rfl (by decide +kernel) ⟨Nat.le_trans (by decide) hRf, Nat.le_trans (by decide) hRl⟩) (fun u => (w_X3_tellSigns Y h_p0 h_p1 B_p0 N_p1 p0_n p0_cells p1)) [0, 1] [2] [1, 2, 0] rfl rfl rfl rfl (by decide) (fun _ => rfl) rfl 0 6 rfl rfl rfl rfl hl.1 rfl (Nat.le_of_ble_eq_true rfl) dX3_tellSigns_28 (fun r28 u H locs h hP hD hS => ?_)
              try dsimp only at h
              have hP : va_P G vwCl (w_X3_tellSigns Y h_p0 h_p1 B_p0 N_p1 p0_n p0_cells p1) H := hP
              have hD : va_D A (w_X3_tellSigns Y h_p0 h_p1 B_p0 N_p1 p0_n p0_cells p1) := hD
              refine lv_istore (lv' := [(4, .int r28), (0, .ref h_p0), (1, .ref h_p1), (2, .int x2), (3, .int x3)]) hx hb dX3_tellSigns_31 hl (by decide) rfl (fun ls hl => ?_)
              refine lv_aload_n hx hb dX3_tellSigns_33 rfl (lv_at hl 2 rfl) ?_
              refine lv_iload hx hb dX3_tellSigns_34 (lv_at hl 0 rfl) ?_
              refine lv_dup2_11 hx hb dX3_tellSigns_36 rfl rfl ?_
              obtain ⟨hin, h⟩ := h
              refine va_iald hx hb hK hP 2 0 rfl rfl hin dX3_tellSigns_37 ?_
              refine lv_iconst (v := 1) hx hb dX3_tellSigns_38 (by decide) ?_
              refine lv_iadd hx hb dX3_tellSigns_39 ?_
              obtain ⟨hin, h⟩ := h
              refine va_iast hx hb hK hP hD hS 2 0 rfl rfl hin dX3_tellSigns_40 (fun H locs hP hD hS => ?_)
              have hP : va_P G vwCl (w_X3_tellSigns Y h_p0 h_p1 B_p0 N_p1 p0_n p0_cells (upd p1 (Int32.toNatClampNeg r28) ((p1 (Int32.toNatClampNeg r28)) + (1 : Int32)))) H := hP
              have hD : va_D A (w_X3_tellSigns Y h_p0 h_p1 B_p0 N_p1 p0_n p0_cells (upd p1 (Int32.toNatClampNeg r28) ((p1 (Int32.toNatClampNeg r28)) + (1 : Int32)))) := hD
              refine lv_iload hx hb dX3_tellSigns_41 (lv_at hl 0 rfl) ?_
              refine lv_iload_n hx hb dX3_tellSigns_43 rfl (lv_at hl 4 rfl) ?_
              obtain ⟨ht, hf⟩ := h
              refine lv_icmp_ne (tgt := 65) hx hb dX3_tellSigns_44 (by decide) (fun c9 => ?_) (fun c9 => ?_)
              · have h := ht c9
                exact J65 x3 r28 (upd p1 (Int32.toNatClampNeg r28) ((p1 (Int32.toNatClampNeg r28)) + (1 : Int32))) H locs ls h hP hD hS (lv_sub hl [1, 2, 3, 4, 0] rfl)
              · have h := hf c9
                refine lv_aload_n hx hb dX3_tellSigns_47 rfl (lv_at hl 2 rfl) ?_
                refine lv_iload_n hx hb dX3_tellSigns_48 rfl (lv_at hl 3 rfl) ?_
                refine lv_dup2_11 hx hb dX3_tellSigns_49 rfl rfl ?_
                obtain ⟨hin, h⟩ := h
                refine va_iald hx hb hK hP 2 0 rfl rfl hin dX3_tellSigns_50 ?_
                refine lv_sipush (v := 128) hx hb dX3_tellSigns_51 (by decide) ?_
                refine lv_iadd hx hb dX3_tellSigns_54 ?_
                obtain ⟨hin, h⟩ := h
                refine va_iast hx hb hK hP hD hS 2 0 rfl rfl hin dX3_tellSigns_55 (fun H locs hP hD hS => ?_)
                have hP : va_P G vwCl (w_X3_tellSigns Y h_p0 h_p1 B_p0 N_p1 p0_n p0_cells (upd (upd p1 (Int32.toNatClampNeg r28) ((p1 (Int32.toNatClampNeg r28)) + (1 : Int32))) (Int32.toNatClampNeg x2) (((upd p1 (Int32.toNatClampNeg r28) ((p1 (Int32.toNatClampNeg r28)) + (1 : Int32))) (Int32.toNatClampNeg x2)) + (128 : Int32)))) H := hP
                have hD : va_D A (w_X3_tellSigns Y h_p0 h_p1 B_p0 N_p1 p0_n p0_cells (upd (upd p1 (Int32.toNatClampNeg r28) ((p1 (Int32.toNatClampNeg r28)) + (1 : Int32))) (Int32.toNatClampNeg x2) (((upd p1 (Int32.toNatClampNeg r28) ((p1 (Int32.toNatClampNeg r28)) + (1 : Int32))) (Int32.toNatClampNeg x2)) + (128 : Int32)))) := hD
                refine lv_aload_n hx hb dX3_tellSigns_56 rfl (lv_at hl 2 rfl) ?_
                refine lv_iload_n hx hb dX3_tellSigns_57 rfl (lv_at hl 4 rfl) ?_
                refine lv_dup2_11 hx hb dX3_tellSigns_58 rfl rfl ?_
                obtain ⟨hin, h⟩ := h
                refine va_iald hx hb hK hP 2 0 rfl rfl hin dX3_tellSigns_59 ?_
                refine lv_sipush (v := 2048) hx hb dX3_tellSigns_60 (by decide) ?_
                refine lv_iadd hx hb dX3_tellSigns_63 ?_
                obtain ⟨hin, h⟩ := h
                refine va_iast hx hb hK hP hD hS 2 0 rfl rfl hin dX3_tellSigns_64 (fun H locs hP hD hS => ?_)
                have hP : va_P G vwCl (w_X3_tellSigns Y h_p0 h_p1 B_p0 N_p1 p0_n p0_cells (upd (upd (upd p1 (Int32.toNatClampNeg r28) ((p1 (Int32.toNatClampNeg r28)) + (1 : Int32))) (Int32.toNatClampNeg x2) (((upd p1 (Int32.toNatClampNeg r28) ((p1 (Int32.toNatClampNeg r28)) + (1 : Int32))) (Int32.toNatClampNeg x2)) + (128 : Int32))) (Int32.toNatClampNeg x3) (((upd (upd p1 (Int32.toNatClampNeg r28) ((p1 (Int32.toNatClampNeg r28)) + (1 : Int32))) (Int32.toNatClampNeg x2) (((upd p1 (Int32.toNatClampNeg r28) ((p1 (Int32.toNatClampNeg r28)) + (1 : Int32))) (Int32.toNatClampNeg x2)) + (128 : Int32))) (Int32.toNatClampNeg x3)) + (2048 : Int32)))) H := hP
                have hD : va_D A (w_X3_tellSigns Y h_p0 h_p1 B_p0 N_p1 p0_n p0_cells (upd (upd (upd p1 (Int32.toNatClampNeg r28) ((p1 (Int32.toNatClampNeg r28)) + (1 : Int32))) (Int32.toNatClampNeg x2) (((upd p1 (Int32.toNatClampNeg r28) ((p1 (Int32.toNatClampNeg r28)) + (1 : Int32))) (Int32.toNatClampNeg x2)) + (128 : Int32))) (Int32.toNatClampNeg x3) (((upd (upd p1 (Int32.toNatClampNeg r28) ((p1 (Int32.toNatClampNeg r28)) + (1 : Int32))) (Int32.toNatClampNeg x2) (((upd p1 (Int32.toNatClampNeg r28) ((p1 (Int32.toNatClampNeg r28)) + (1 : Int32))) (Int32.toNatClampNeg x2)) + (128 : Int32))) (Int32.toNatClampNeg x3)) + (2048 : Int32)))) := hD
                exact J65 x3 r28 (upd (upd (upd p1 (Int32.toNatClampNeg r28) ((p1 (Int32.toNatClampNeg r28)) + (1 : Int32))) (Int32.toNatClampNeg x2) (((upd p1 (Int32.toNatClampNeg r28) ((p1 (Int32.toNatClampNeg r28)) + (1 : Int32))) (Int32.toNatClampNeg x2)) + (128 : Int32))) (Int32.toNatClampNeg x3) (((upd (upd p1 (Int32.toNatClampNeg r28) ((p1 (Int32.toNatClampNeg r28)) + (1 : Int32))) (Int32.toNatClampNeg x2) (((upd p1 (Int32.toNatClampNeg r28) ((p1 (Int32.toNatClampNeg r28)) + (1 : Int32))) (Int32.toNatClampNeg x2)) + (128 : Int32))) (Int32.toNatClampNeg x3)) + (2048 : Int32))) H locs ls h hP hD hS (lv_sub hl [1, 2, 3, 4, 0] rfl)
        exact L17 x2 I17 m17 hB17 _ (0 : Int32) p1 H locs ls hI17 (Nat.lt_succ_self _) hP hD hS (lv_sub hl [1, 2, 3, 0] rfl)
  exact L7  I7 m7 hB7 _ (0 : Int32) p1_2 H locs ls hI7 (Nat.lt_succ_self _) hP hD hS (lv_sub hl [1, 2, 0] rfl)

set_option maxHeartbeats 4000000 in
set_option maxRecDepth 100000 in
theorem c_X3_tellSigns (l : Launch) (G : va_G) (Y : Nat → ClassId) (tF sz : Nat) (h_p0 : Nat) (h_p1 : Nat) (B_p0 : Nat → Nat) (N_p1 : Nat) (p0_n : Int32) (p0_cells : Nat → Int32) (p1 : Nat → Int32) {K : (Nat → Int32) → Prop} (h : pX3_tellSigns N_p1 p0_n p0_cells p1 K) : Met l yX3_tellSigns wsX3_tellSigns ({ frames := 1, cells := 0, slots := 0, locals := 23 }) (PcM G Y tF sz (w_X3_tellSigns Y h_p0 h_p1 B_p0 N_p1 p0_n p0_cells p1) [.ref h_p0, .ref h_p1]) (va_Qv (fun u : (Nat → Int32) => K u) (fun u t => BM G Y (va_A (w_X3_tellSigns Y h_p0 h_p1 B_p0 N_p1 p0_n p0_cells p1) sz) (w_X3_tellSigns Y h_p0 h_p1 B_p0 N_p1 p0_n p0_cells u) t) (va_A (w_X3_tellSigns Y h_p0 h_p1 B_p0 N_p1 p0_n p0_cells p1) sz)) 0 0 (va_A (w_X3_tellSigns Y h_p0 h_p1 B_p0 N_p1 p0_n p0_cells p1) sz) := by
  refine Met.ofW (cc := cX3_tellSigns) (maxL := 5) (ret := none) (by decide +kernel) rfl ?_
  intro p e s m args below meth c s₁ B hml hv
  obtain ⟨rfl, hsz, hP, hK, hD0, hE⟩ := hv
  have hts := atoms_spec (ws := wsX3_tellSigns) B.pre
  have hown : s.vm.findClass RX3 = some m.cls := findClass_of_methodNamed B.named
  have hlocks := B.notSynchronized
  subst hsz
  have hD := hD0.self (sz := s.heap.size)
  exact wk_X3_tellSigns h_p0 h_p1 B_p0 N_p1 p0_n p0_cells p1 B.exec B.bytes hml hown hts hK hE (fun q h => Or.inr h) (Nat.le_refl _) (Nat.le_refl _) (fun p1 H locs ls pc hP hD hS hk hd => W.vret B.exec B.bytes B.returns (fun t ht hW => ⟨⟨p1, rfl, hk, by rw [ht]; exact hP, va_K.moved hW.alike hK, hD⟩, hS.F ht⟩) hS.2.2 hd) hP hD h

abbrev w_X3_fits (Y : Nat → ClassId) (h_t : Nat) (h_p1 : Nat) (h_p2 : Nat) (B_t : Nat → Nat) (B_p1 : Nat → Nat) (B_p2 : Nat → Nat) (t_used : Int32) (t_images : Nat → Int32) (t_signsHere : Nat → Int32) (t_signsThere : Nat → Int32) (p1_n : Int32) (p1_cells : Nat → Int32) (p2_n : Int32) (p2_cells : Nat → Int32) : va_W := [(h_t, .inr (3, [.ref (B_t 0), .ref (B_t 1), .ref (B_t 2), .int t_used])), ((B_t 2), .inl (Y 0, 8, .inl t_images)), ((B_t 0), .inl (Y 0, 8, .inl t_signsHere)), ((B_t 1), .inl (Y 0, 8, .inl t_signsThere)), (h_p1, .inr (6, [.ref (B_p1 0), .int p1_n])), ((B_p1 0), .inl (Y 0, 64, .inl p1_cells)), (h_p2, .inr (6, [.ref (B_p2 0), .int p2_n])), ((B_p2 0), .inl (Y 0, 64, .inl p2_cells))]

set_option maxHeartbeats 4000000 in
set_option maxRecDepth 100000 in
theorem wk_X3_fits {p : Program} {l : Launch} {e : Env} {R : Room} {s : State} {m : MethodId} {args : Array Value} {below : List Frame} {meth : Method} {c : Code} {Q : State → Prop} {G : va_G} {Y : Nat → ClassId} {tF : Nat} {A : Nat → Prop} (h_t : Nat) (h_p1 : Nat) (h_p2 : Nat) (B_t : Nat → Nat) (B_p1 : Nat → Nat) (B_p2 : Nat → Nat) (t_used : Int32) (t_images : Nat → Int32) (t_signsHere : Nat → Int32) (t_signsThere : Nat → Int32) (p1_n : Int32) (p1_cells : Nat → Int32) (p2_n : Int32) (p2_cells : Nat → Int32) (x3 : Int32) (x4 : Int32) {K : Int32 → (Nat → Int32) → Prop} (hx : p.tables.exec = Jvm.exec) (hb : c.code = cX3_fits) (hml : c.maxLocals = 11) (hown : s.vm.findClass RX3 = some m.cls) (hts : ∀ w ∈ wsX3_fits, w.before args s = true) (hK : va_K G vwCl (tyL Y) s) (hE : Ev A tF s) (hA : ∀ q, s.heap.size ≤ q → A q) (hRf : 1 ≤ R.frames) (hRl : 22 ≤ R.locals) (hret : ∀ (r : Int32) (t_images : Nat → Int32) (H : Heap) (locs : List Loc) (ls : Array Slot) (pc : Nat), va_P G vwCl (w_X3_fits Y h_t h_p1 h_p2 B_t B_p1 B_p2 t_used t_images t_signsHere t_signsThere p1_n p1_cells p2_n p2_cells) H → va_D A (w_X3_fits Y h_t h_p1 h_p2 B_t B_p1 B_p2 t_used t_images t_signsHere t_signsThere p1_n p1_cells p2_n p2_cells) → va_S A s.heap H locs → zb r → K r t_images → decode cX3_fits pc = .ok (.ireturn, 1) → W p l e R s m args below meth c H locs 0 0 Q (F0 m pc ls [.int r])) (hP : va_P G vwCl (w_X3_fits Y h_t h_p1 h_p2 B_t B_p1 B_p2 t_used t_images t_signsHere t_signsThere p1_n p1_cells p2_n p2_cells) s.heap) (hD : va_D A (w_X3_fits Y h_t h_p1 h_p2 B_t B_p1 B_p2 t_used t_images t_signsHere t_signsThere p1_n p1_cells p2_n p2_cells)) (h : pX3_fits t_used t_images t_signsHere t_signsThere p1_cells p2_cells x3 x4 K) : W p l e R s m args below meth c s.heap [] 0 0 Q (entryFrame m ([.ref h_t, .ref h_p1, .ref h_p2, .int x3, .int x4] : List Value).toArray 11) := by
  have inX3 : ∀ w ∈ u_ws RX3 TX3 4, w ∈ wsX3_fits := by decide +kernel
  have hf15 := hts (.fieldLink RX3 15 "RackBench$Matcher" "signsThere" "[I") (by decide +kernel)
  have hf18 := hts (.fieldLink RX3 18 "RackBench$Matcher" "images" "[I") (by decide +kernel)
  have hf21 := hts (.fieldLink RX3 21 "RackBench$Matcher" "used" "I") (by decide +kernel)
  have hf9 := hts (.fieldLink RX3 9 "RackBench$Matcher" "signsHere" "[I") (by decide +kernel)
  have hl := lv_entry ([.ref h_t, .ref h_p1, .ref h_p2, .int x3, .int x4]) (n := 11) (Nat.le_of_ble_eq_true rfl)
  rw [lg_entry_eq]
  generalize (lg_sl ([.ref h_t, .ref h_p1, .ref h_p2, .int x3, .int x4]) ++ List.replicate (11 - (lg_sl ([.ref h_t, .ref h_p1, .ref h_p2, .int x3, .int x4])).length) Slot.unset).toArray = ls at hl ⊢
  have hl : lv_has ls 11 [(0, .ref h_t), (1, .ref h_p1), (2, .ref h_p2), (3, .int x3), (4, .int x4)] := hl
  generalize hH0 : s.heap = H at hP ⊢
  have hS : va_S A s.heap H [] := by rw [← hH0]; exact va_S.rf
  clear hH0
  generalize ([] : List Loc) = locs at hS ⊢
  refine lv_aload_n hx hb dX3_fits_0 rfl (lv_at hl 0 rfl) ?_
  refine va_get (D := G) (ci := 3) (v := .ref (B_t 0)) (C := RX3) (T := TX3) (N := 4) hx hb hts inX3 hown hK hP 0 rfl rfl 0 (by decide) hf9 (fun _ h9 => h9) rfl dX3_fits_1 ?_
  refine lv_iload_n hx hb dX3_fits_4 rfl (lv_at hl 3 rfl) ?_
  obtain ⟨hin, h⟩ := h
  refine va_iald hx hb hK hP 2 0 rfl rfl hin dX3_fits_5 ?_
  refine lv_aload_n hx hb dX3_fits_6 rfl (lv_at hl 0 rfl) ?_
  refine va_get (D := G) (ci := 3) (v := .ref (B_t 1)) (C := RX3) (T := TX3) (N := 4) hx hb hts inX3 hown hK hP 0 rfl rfl 1 (by decide) hf15 (fun _ h9 => h9) rfl dX3_fits_7 ?_
  refine lv_iload hx hb dX3_fits_10 (lv_at hl 4 rfl) ?_
  obtain ⟨hin, h⟩ := h
  refine va_iald hx hb hK hP 3 0 rfl rfl hin dX3_fits_12 ?_
  obtain ⟨ht, hf⟩ := h
  refine lv_icmp_eq (tgt := 18) hx hb dX3_fits_13 (by decide) (fun c9 => ?_) (fun c9 => ?_)
  · have h := ht c9
    refine lv_aload_n hx hb dX3_fits_18 rfl (lv_at hl 0 rfl) ?_
    refine va_get (D := G) (ci := 3) (v := .ref (B_t 2)) (C := RX3) (T := TX3) (N := 4) hx hb hts inX3 hown hK hP 0 rfl rfl 2 (by decide) hf18 (fun _ h9 => h9) rfl dX3_fits_19 ?_
    refine lv_iload_n hx hb dX3_fits_22 rfl (lv_at hl 3 rfl) ?_
    refine lv_iload hx hb dX3_fits_23 (lv_at hl 4 rfl) ?_
    obtain ⟨hin, h⟩ := h
    refine va_iast hx hb hK hP hD hS 1 0 rfl rfl hin dX3_fits_25 (fun H locs hP hD hS => ?_)
    have hP : va_P G vwCl (w_X3_fits Y h_t h_p1 h_p2 B_t B_p1 B_p2 t_used (upd t_images (Int32.toNatClampNeg x3) x4) t_signsHere t_signsThere p1_n p1_cells p2_n p2_cells) H := hP
    have hD : va_D A (w_X3_fits Y h_t h_p1 h_p2 B_t B_p1 B_p2 t_used (upd t_images (Int32.toNatClampNeg x3) x4) t_signsHere t_signsThere p1_n p1_cells p2_n p2_cells) := hD
    refine lv_aload_n hx hb dX3_fits_26 rfl (lv_at hl 0 rfl) ?_
    refine va_get (D := G) (ci := 3) (v := .int t_used) (C := RX3) (T := TX3) (N := 4) hx hb hts inX3 hown hK hP 0 rfl rfl 3 (by decide) hf21 (fun _ h9 => h9) rfl dX3_fits_27 ?_
    refine lv_iconst (v := 1) hx hb dX3_fits_30 (by decide) ?_
    refine lv_iload hx hb dX3_fits_31 (lv_at hl 4 rfl) ?_
    refine lv_ishl hx hb dX3_fits_33 ?_
    refine lv_ior hx hb dX3_fits_34 ?_
    refine lv_istore (lv' := [(5, .int (t_used ||| ((1 : Int32) <<< (x4 &&& 31)))), (0, .ref h_t), (1, .ref h_p1), (2, .ref h_p2), (3, .int x3), (4, .int x4)]) hx hb dX3_fits_35 hl (by decide) rfl (fun ls hl => ?_)
    refine lv_iconst (v := 0) hx hb dX3_fits_37 (by decide) ?_
    refine lv_istore (lv' := [(6, .int (0 : Int32)), (5, .int (t_used ||| ((1 : Int32) <<< (x4 &&& 31)))), (0, .ref h_t), (1, .ref h_p1), (2, .ref h_p2), (3, .int x3), (4, .int x4)]) hx hb dX3_fits_38 hl (by decide) rfl (fun ls hl => ?_)
    obtain ⟨I40, m40, hI40, hB40⟩ := h
    have L40 : ∀ (x3 : Int32) (x5 : Int32) (t_images : Nat → Int32) (I40 : Int32 → Prop) (m40 : Int32 → Nat), (∀ (x6 : Int32), I40 x6 → pX3_fits_40 t_used t_signsHere t_signsThere p1_cells p2_cells K x3 x5 t_images x6 (fun x6' => I40 x6' ∧ m40 x6' < m40 x6)) → ∀ (n : Nat) (x6 : Int32) (H : Heap) (locs : List Loc) (ls : Array Slot), I40 x6 → m40 x6 < n → va_P G vwCl (w_X3_fits Y h_t h_p1 h_p2 B_t B_p1 B_p2 t_used t_images t_signsHere t_signsThere p1_n p1_cells p2_n p2_cells) H → va_D A (w_X3_fits Y h_t h_p1 h_p2 B_t B_p1 B_p2 t_used t_images t_signsHere t_signsThere p1_n p1_cells p2_n p2_cells) → va_S A s.heap H locs → lv_has ls 11 [(0, .ref h_t), (1, .ref h_p1), (2, .ref h_p2), (3, .int x3), (5, .int x5), (6, .int x6)] → W p l e R s m args below meth c H locs 0 0 Q (F0 m 40 ls []) := by
      intro x3 x5 t_images I40 m40 hB40 n
      induction n with
      | zero => intro x6 H locs ls _ hm; exact absurd hm (Nat.not_lt_zero _)
      | succ n ih =>
        intro x6 H locs ls hI hm hP hD hS hl
        obtain ⟨R40, h, rec40⟩ : ∃ R40 : Int32 → Prop, pX3_fits_40 t_used t_signsHere t_signsThere p1_cells p2_cells K x3 x5 t_images x6 R40 ∧ ∀ (x6 : Int32) (H : Heap) (locs : List Loc) (ls : Array Slot), R40 x6 → va_P G vwCl (w_X3_fits Y h_t h_p1 h_p2 B_t B_p1 B_p2 t_used t_images t_signsHere t_signsThere p1_n p1_cells p2_n p2_cells) H → va_D A (w_X3_fits Y h_t h_p1 h_p2 B_t B_p1 B_p2 t_used t_images t_signsHere t_signsThere p1_n p1_cells p2_n p2_cells) → va_S A s.heap H locs → lv_has ls 11 [(0, .ref h_t), (1, .ref h_p1), (2, .ref h_p2), (3, .int x3), (5, .int x5), (6, .int x6)] → W p l e R s m args below meth c H locs 0 0 Q (F0 m 40 ls []) := ⟨_, hB40 x6 hI, fun x6 H locs ls hh hP hD hS hl => ih x6 H locs ls hh.1 (Nat.lt_of_lt_of_le hh.2 (Nat.le_of_lt_succ hm)) hP hD hS hl⟩
        refine lv_iload hx hb dX3_fits_40 (lv_at hl 5 rfl) ?_
        refine lv_iload_n hx hb dX3_fits_42 rfl (lv_at hl 3 rfl) ?_
        obtain ⟨ht, hf⟩ := h
        refine lv_icmp_gt (tgt := 147) hx hb dX3_fits_43 (by decide) (fun c9 => ?_) (fun c9 => ?_)
        · have h := ht c9
          refine lv_iconst (v := 1) hx hb dX3_fits_147 (by decide) ?_
          obtain ⟨hz, h⟩ := h
          exact hret (1 : Int32) t_images H locs ls _ hP hD hS hz h dX3_fits_148
        · have h := hf c9
          refine lv_iconst (v := 0) hx hb dX3_fits_46 (by decide) ?_
          refine lv_istore (lv' := [(7, .int (0 : Int32)), (0, .ref h_t), (1, .ref h_p1), (2, .ref h_p2), (3, .int x3), (5, .int x5), (6, .int x6)]) hx hb dX3_fits_47 hl (by decide) rfl (fun ls hl => ?_)
          obtain ⟨I49, m49, hI49, hB49⟩ := h
          have L49 : ∀ (x6 : Int32) (I49 : Int32 → Prop) (m49 : Int32 → Nat), (∀ (x7 : Int32), I49 x7 → pX3_fits_49 t_used t_signsHere t_signsThere p1_cells p2_cells R40 K x3 x5 t_images x6 x7 (fun x7' => I49 x7' ∧ m49 x7' < m49 x7)) → ∀ (n : Nat) (x7 : Int32) (H : Heap) (locs : List Loc) (ls : Array Slot), I49 x7 → m49 x7 < n → va_P G vwCl (w_X3_fits Y h_t h_p1 h_p2 B_t B_p1 B_p2 t_used t_images t_signsHere t_signsThere p1_n p1_cells p2_n p2_cells) H → va_D A (w_X3_fits Y h_t h_p1 h_p2 B_t B_p1 B_p2 t_used t_images t_signsHere t_signsThere p1_n p1_cells p2_n p2_cells) → va_S A s.heap H locs → lv_has ls 11 [(0, .ref h_t), (1, .ref h_p1), (2, .ref h_p2), (3, .int x3), (5, .int x5), (6, .int x6), (7, .int x7)] → W p l e R s m args below meth c H locs 0 0 Q (F0 m 49 ls []) := by
            intro x6 I49 m49 hB49 n
            induction n with
            | zero => intro x7 H locs ls _ hm; exact absurd hm (Nat.not_lt_zero _)
            | succ n ih =>
              intro x7 H locs ls hI hm hP hD hS hl
              obtain ⟨R49, h, rec49⟩ : ∃ R49 : Int32 → Prop, pX3_fits_49 t_used t_signsHere t_signsThere p1_cells p2_cells R40 K x3 x5 t_images x6 x7 R49 ∧ ∀ (x7 : Int32) (H : Heap) (locs : List Loc) (ls : Array Slot), R49 x7 → va_P G vwCl (w_X3_fits Y h_t h_p1 h_p2 B_t B_p1 B_p2 t_used t_images t_signsHere t_signsThere p1_n p1_cells p2_n p2_cells) H → va_D A (w_X3_fits Y h_t h_p1 h_p2 B_t B_p1 B_p2 t_used t_images t_signsHere t_signsThere p1_n p1_cells p2_n p2_cells) → va_S A s.heap H locs → lv_has ls 11 [(0, .ref h_t), (1, .ref h_p1), (2, .ref h_p2), (3, .int x3), (5, .int x5), (6, .int x6), (7, .int x7)] → W p l e R s m args below meth c H locs 0 0 Q (F0 m 49 ls []) := ⟨_, hB49 x7 hI, fun x7 H locs ls hh hP hD hS hl => ih x7 H locs ls hh.1 (Nat.lt_of_lt_of_le hh.2 (Nat.le_of_lt_succ hm)) hP hD hS hl⟩
              have J126 : ∀ (x7 : Int32) (s0 : Int32) (H : Heap) (locs : List Loc) (ls : Array Slot), pX3_fits_126 t_used t_signsHere t_signsThere p1_cells p2_cells R40 R49 K x3 x5 t_images x6 x7 s0 → va_P G vwCl (w_X3_fits Y h_t h_p1 h_p2 B_t B_p1 B_p2 t_used t_images t_signsHere t_signsThere p1_n p1_cells p2_n p2_cells) H → va_D A (w_X3_fits Y h_t h_p1 h_p2 B_t B_p1 B_p2 t_used t_images t_signsHere t_signsThere p1_n p1_cells p2_n p2_cells) → va_S A s.heap H locs → lv_has ls 11 [(0, .ref h_t), (1, .ref h_p1), (2, .ref h_p2), (3, .int x3), (5, .int x5), (6, .int x6), (7, .int x7)] → W p l e R s m args below meth c H locs 0 0 Q (F0 m 126 ls [.int s0]) := by
                intro x7 s0 H locs ls h hP hD hS hl
                refine lv_istore (lv' := [(10, .int s0), (0, .ref h_t), (1, .ref h_p1), (2, .ref h_p2), (3, .int x3), (5, .int x5), (6, .int x6), (7, .int x7)]) hx hb dX3_fits_126 hl (by decide) rfl (fun ls hl => ?_)
                refine lv_iload hx hb dX3_fits_128 (lv_at hl 0 rfl) ?_
                obtain ⟨ht, hf⟩ := h
                refine lv_if_ne (tgt := 135) hx hb dX3_fits_130 (by decide) (fun c9 => ?_) (fun c9 => ?_)
                · have h := ht c9
                  refine lv_iinc (v := (x7 + 1)) (lv' := [(7, .int (x7 + 1)), (10, .int s0), (0, .ref h_t), (1, .ref h_p1), (2, .ref h_p2), (3, .int x3), (5, .int x5), (6, .int x6)]) hx hb dX3_fits_135 hl (k := 7) rfl rfl (by decide) rfl (fun ls hl => ?_)
                  refine lv_goto (tgt := 49) hx hb dX3_fits_138 (by decide) ?_
                  exact rec49 (x7 + 1) H locs ls h hP hD hS (lv_sub hl [2, 3, 4, 5, 6, 7, 0] rfl)
                · have h := hf c9
                  refine lv_iconst (v := 0) hx hb dX3_fits_133 (by decide) ?_
                  obtain ⟨hz, h⟩ := h
                  exact hret (0 : Int32) t_images H locs ls _ hP hD hS hz h dX3_fits_134
              refine lv_iload hx hb dX3_fits_49 (lv_at hl 6 rfl) ?_
              refine lv_iload_n hx hb dX3_fits_51 rfl (lv_at hl 3 rfl) ?_
              obtain ⟨ht, hf⟩ := h
              refine lv_icmp_gt (tgt := 141) hx hb dX3_fits_52 (by decide) (fun c9 => ?_) (fun c9 => ?_)
              · have h := ht c9
                refine lv_iinc (v := (x6 + 1)) (lv' := [(6, .int (x6 + 1)), (0, .ref h_t), (1, .ref h_p1), (2, .ref h_p2), (3, .int x3), (5, .int x5), (7, .int x7)]) hx hb dX3_fits_141 hl (k := 5) rfl rfl (by decide) rfl (fun ls hl => ?_)
                refine lv_goto (tgt := 40) hx hb dX3_fits_144 (by decide) ?_
                exact rec40 (x6 + 1) H locs ls h hP hD hS (lv_sub hl [1, 2, 3, 4, 5, 0] rfl)
              · have h := hf c9
                refine lv_aload_n hx hb dX3_fits_55 rfl (lv_at hl 1 rfl) ?_
                refine lv_iload hx hb dX3_fits_56 (lv_at hl 5 rfl) ?_
                refine lv_iload hx hb dX3_fits_58 (lv_at hl 6 rfl) ?_
                refine mc_iV ⟨hx, hb, hml, hown, hts⟩ hK hE hA hP hD hS (c_X7_turned l G Y tF H.size h_p1 B_p1 p1_n p1_cells x6 x7 h) (cwV 2 hts gX3_fits_X7_turned rfl rfl rfl (by decide +kernel) ⟨Nat.le_trans (by decide) hRf, Nat.le_trans (by decide) hRl⟩) (fun u => (w_X3_fits Y h_t h_p1 h_p2 B_t B_p1 B_p2 t_used t_images t_signsHere t_signsThere p1_n p1_cells p2_n p2_cells)) [4, 5] [0, 1, 2, 3, 6, 7] [0, 1, 2, 3, 6, 7, 4, 5] rfl rfl rfl rfl (by decide) (fun _ => rfl) rfl 4 6 rfl rfl rfl rfl hl.1 rfl (Nat.le_of_ble_eq_true rfl) dX3_fits_60 (fun r60 u H locs h hP hD hS => ?_)
                try dsimp only at h
                have hP : va_P G vwCl (w_X3_fits Y h_t h_p1 h_p2 B_t B_p1 B_p2 t_used t_images t_signsHere t_signsThere p1_n p1_cells p2_n p2_cells) H := hP
                have hD : va_D A (w_X3_fits Y h_t h_p1 h_p2 B_t B_p1 B_p2 t_used t_images t_signsHere t_signsThere p1_n p1_cells p2_n p2_cells) := hD
                refine lv_istore (lv' := [(8, .int r60), (0, .ref h_t), (1, .ref h_p1), (2, .ref h_p2), (3, .int x3), (5, .int x5), (6, .int x6), (7, .int x7)]) hx hb dX3_fits_63 hl (by decide) rfl (fun ls hl => ?_)
                refine lv_aload_n hx hb dX3_fits_65 rfl (lv_at hl 3 rfl) ?_
                refine lv_aload_n hx hb dX3_fits_66 rfl (lv_at hl 1 rfl) ?_
                refine va_get (D := G) (ci := 3) (v := .ref (B_t 2)) (C := RX3) (T := TX3) (N := 4) hx hb hts inX3 hown hK hP 0 rfl rfl 2 (by decide) hf18 (fun _ h9 => h9) rfl dX3_fits_67 ?_
                refine lv_iload hx hb dX3_fits_70 (lv_at hl 6 rfl) ?_
                obtain ⟨hin, h⟩ := h
                refine va_iald hx hb hK hP 1 0 rfl rfl hin dX3_fits_72 ?_
                refine lv_aload_n hx hb dX3_fits_73 rfl (lv_at hl 1 rfl) ?_
                refine va_get (D := G) (ci := 3) (v := .ref (B_t 2)) (C := RX3) (T := TX3) (N := 4) hx hb hts inX3 hown hK hP 0 rfl rfl 2 (by decide) hf18 (fun _ h9 => h9) rfl dX3_fits_74 ?_
                refine lv_iload hx hb dX3_fits_77 (lv_at hl 7 rfl) ?_
                obtain ⟨hin, h⟩ := h
                refine va_iald hx hb hK hP 1 0 rfl rfl hin dX3_fits_79 ?_
                refine mc_iV ⟨hx, hb, hml, hown, hts⟩ hK hE hA hP hD hS (c_X7_turned l G Y tF H.size h_p2 B_p2 p2_n p2_cells (t_images (Int32.toNatClampNeg x6)) (t_images (Int32.toNatClampNeg x7)) h) (cwV 2 hts gX3_fits_X7_turned rfl rfl rfl (by decide +kernel) ⟨Nat.le_trans (by decide) hRf, Nat.le_trans (by decide) hRl⟩) (fun u => (w_X3_fits Y h_t h_p1 h_p2 B_t B_p1 B_p2 t_used t_images t_signsHere t_signsThere p1_n p1_cells p2_n p2_cells)) [6, 7] [0, 1, 2, 3, 4, 5] [0, 1, 2, 3, 4, 5, 6, 7] rfl rfl rfl rfl (by decide) (fun _ => rfl) rfl 6 6 rfl rfl rfl rfl hl.1 rfl (Nat.le_of_ble_eq_true rfl) dX3_fits_80 (fun r80 u H locs h hP hD hS => ?_)
                try dsimp only at h
                have hP : va_P G vwCl (w_X3_fits Y h_t h_p1 h_p2 B_t B_p1 B_p2 t_used t_images t_signsHere t_signsThere p1_n p1_cells p2_n p2_cells) H := hP
                have hD : va_D A (w_X3_fits Y h_t h_p1 h_p2 B_t B_p1 B_p2 t_used t_images t_signsHere t_signsThere p1_n p1_cells p2_n p2_cells) := hD
                refine lv_istore (lv' := [(9, .int r80), (8, .int r60), (0, .ref h_t), (1, .ref h_p1), (2, .ref h_p2), (3, .int x3), (5, .int x5), (6, .int x6), (7, .int x7)]) hx hb dX3_fits_83 hl (by decide) rfl (fun ls hl => ?_)
                refine lv_iload hx hb dX3_fits_85 (lv_at hl 1 rfl) ?_
                refine lv_iload_n hx hb dX3_fits_87 rfl (lv_at hl 5 rfl) ?_
                obtain ⟨ht, hf⟩ := h
                refine lv_icmp_gt (tgt := 111) hx hb dX3_fits_88 (by decide) (fun c9 => ?_) (fun c9 => ?_)
                · have h := ht c9
                  refine lv_iload hx hb dX3_fits_111 (lv_at hl 6 rfl) ?_
                  refine lv_iload hx hb dX3_fits_113 (lv_at hl 0 rfl) ?_
                  refine lv_ishr hx hb dX3_fits_115 ?_
                  refine lv_iconst (v := 1) hx hb dX3_fits_116 (by decide) ?_
                  refine lv_iand hx hb dX3_fits_117 ?_
                  obtain ⟨ht, hf⟩ := h
                  refine lv_if_ne (tgt := 125) hx hb dX3_fits_118 (by decide) (fun c9 => ?_) (fun c9 => ?_)
                  · have h := ht c9
                    refine lv_iconst (v := 0) hx hb dX3_fits_125 (by decide) ?_
                    exact J126 x7 (0 : Int32) H locs ls h hP hD hS (lv_sub hl [2, 3, 4, 5, 6, 7, 8] rfl)
                  · have h := hf c9
                    refine lv_iconst (v := 1) hx hb dX3_fits_121 (by decide) ?_
                    refine lv_goto (tgt := 126) hx hb dX3_fits_122 (by decide) ?_
                    exact J126 x7 (1 : Int32) H locs ls h hP hD hS (lv_sub hl [2, 3, 4, 5, 6, 7, 8] rfl)
                · have h := hf c9
                  refine lv_aload_n hx hb dX3_fits_91 rfl (lv_at hl 2 rfl) ?_
                  refine va_get (D := G) (ci := 3) (v := .ref (B_t 2)) (C := RX3) (T := TX3) (N := 4) hx hb hts inX3 hown hK hP 0 rfl rfl 2 (by decide) hf18 (fun _ h9 => h9) rfl dX3_fits_92 ?_
                  refine lv_iload hx hb dX3_fits_95 (lv_at hl 1 rfl) ?_
                  obtain ⟨hin, h⟩ := h
                  refine va_iald hx hb hK hP 1 0 rfl rfl hin dX3_fits_97 ?_
                  refine lv_iload hx hb dX3_fits_98 (lv_at hl 0 rfl) ?_
                  obtain ⟨ht, hf⟩ := h
                  refine lv_icmp_ne (tgt := 107) hx hb dX3_fits_100 (by decide) (fun c9 => ?_) (fun c9 => ?_)
                  · have h := ht c9
                    refine lv_iconst (v := 0) hx hb dX3_fits_107 (by decide) ?_
                    refine lv_goto (tgt := 126) hx hb dX3_fits_108 (by decide) ?_
                    exact J126 x7 (0 : Int32) H locs ls h hP hD hS (lv_sub hl [2, 3, 4, 5, 6, 7, 8] rfl)
                  · have h := hf c9
                    refine lv_iconst (v := 1) hx hb dX3_fits_103 (by decide) ?_
                    refine lv_goto (tgt := 126) hx hb dX3_fits_104 (by decide) ?_
                    exact J126 x7 (1 : Int32) H locs ls h hP hD hS (lv_sub hl [2, 3, 4, 5, 6, 7, 8] rfl)
          exact L49 x6 I49 m49 hB49 _ (0 : Int32) H locs ls hI49 (Nat.lt_succ_self _) hP hD hS (lv_sub hl [1, 2, 3, 4, 5, 6, 0] rfl)
    exact L40 x3 (t_used ||| ((1 : Int32) <<< (x4 &&& 31))) (upd t_images (Int32.toNatClampNeg x3) x4) I40 m40 hB40 _ (0 : Int32) H locs ls hI40 (Nat.lt_succ_self _) hP hD hS (lv_sub hl [2, 3, 4, 5, 1, 0] rfl)
  · have h := hf c9
    refine lv_iconst (v := 0) hx hb dX3_fits_16 (by decide) ?_
    obtain ⟨hz, h⟩ := h
    exact hret (0 : Int32) t_images H locs ls _ hP hD hS hz h dX3_fits_17

set_option maxHeartbeats 4000000 in
set_option maxRecDepth 100000 in
theorem c_X3_fits (l : Launch) (G : va_G) (Y : Nat → ClassId) (tF sz : Nat) (h_t : Nat) (h_p1 : Nat) (h_p2 : Nat) (B_t : Nat → Nat) (B_p1 : Nat → Nat) (B_p2 : Nat → Nat) (t_used : Int32) (t_images : Nat → Int32) (t_signsHere : Nat → Int32) (t_signsThere : Nat → Int32) (p1_n : Int32) (p1_cells : Nat → Int32) (p2_n : Int32) (p2_cells : Nat → Int32) (x3 : Int32) (x4 : Int32) {K : Int32 → (Nat → Int32) → Prop} (h : pX3_fits t_used t_images t_signsHere t_signsThere p1_cells p2_cells x3 x4 K) : Met l yX3_fits wsX3_fits ({ frames := 1, cells := 0, slots := 0, locals := 22 }) (PcM G Y tF sz (w_X3_fits Y h_t h_p1 h_p2 B_t B_p1 B_p2 t_used t_images t_signsHere t_signsThere p1_n p1_cells p2_n p2_cells) [.ref h_t, .ref h_p1, .ref h_p2, .int x3, .int x4]) (va_Qi (fun (r : Int32) (u : (Nat → Int32)) => K r u) (fun u t => BM G Y (va_A (w_X3_fits Y h_t h_p1 h_p2 B_t B_p1 B_p2 t_used t_images t_signsHere t_signsThere p1_n p1_cells p2_n p2_cells) sz) (w_X3_fits Y h_t h_p1 h_p2 B_t B_p1 B_p2 t_used u t_signsHere t_signsThere p1_n p1_cells p2_n p2_cells) t) (va_A (w_X3_fits Y h_t h_p1 h_p2 B_t B_p1 B_p2 t_used t_images t_signsHere t_signsThere p1_n p1_cells p2_n p2_cells) sz)) 0 0 (va_A (w_X3_fits Y h_t h_p1 h_p2 B_t B_p1 B_p2 t_used t_images t_signsHere t_signsThere p1_n p1_cells p2_n p2_cells) sz) := by
  refine Met.ofW (cc := cX3_fits) (maxL := 11) (ret := (some .boolean)) (by decide +kernel) rfl ?_
  intro p e s m args below meth c s₁ B hml hv
  obtain ⟨rfl, hsz, hP, hK, hD0, hE⟩ := hv
  have hts := atoms_spec (ws := wsX3_fits) B.pre
  have hown : s.vm.findClass RX3 = some m.cls := findClass_of_methodNamed B.named
  have hlocks := B.notSynchronized
  subst hsz
  have hD := hD0.self (sz := s.heap.size)
  exact wk_X3_fits h_t h_p1 h_p2 B_t B_p1 B_p2 t_used t_images t_signsHere t_signsThere p1_n p1_cells p2_n p2_cells x3 x4 B.exec B.bytes hml hown hts hK hE (fun q h => Or.inr h) (Nat.le_refl _) (Nat.le_refl _) (fun r t_images H locs ls pc hP hD hS hz hk hd => W.zret (v := r) B.exec B.bytes B.returns hz.n (fun t ht hW => ⟨⟨r, t_images, rfl, hk, by rw [ht]; exact hP, va_K.moved hW.alike hK, hD⟩, hS.F ht⟩) hS.2.2 hd) hP hD h

abbrev w_X3_fits_al (Y : Nat → ClassId) (h_t : Nat) (h_p1 : Nat) (B_t : Nat → Nat) (B_p1 : Nat → Nat) (t_used : Int32) (t_images : Nat → Int32) (t_signsHere : Nat → Int32) (t_signsThere : Nat → Int32) (p1_n : Int32) (p1_cells : Nat → Int32) : va_W := [(h_t, .inr (3, [.ref (B_t 0), .ref (B_t 1), .ref (B_t 2), .int t_used])), ((B_t 2), .inl (Y 0, 8, .inl t_images)), ((B_t 0), .inl (Y 0, 8, .inl t_signsHere)), ((B_t 1), .inl (Y 0, 8, .inl t_signsThere)), (h_p1, .inr (6, [.ref (B_p1 0), .int p1_n])), ((B_p1 0), .inl (Y 0, 64, .inl p1_cells))]

set_option maxHeartbeats 4000000 in
set_option maxRecDepth 100000 in
theorem wk_X3_fits_al {p : Program} {l : Launch} {e : Env} {R : Room} {s : State} {m : MethodId} {args : Array Value} {below : List Frame} {meth : Method} {c : Code} {Q : State → Prop} {G : va_G} {Y : Nat → ClassId} {tF : Nat} {A : Nat → Prop} (h_t : Nat) (h_p1 : Nat) (B_t : Nat → Nat) (B_p1 : Nat → Nat) (t_used : Int32) (t_images : Nat → Int32) (t_signsHere : Nat → Int32) (t_signsThere : Nat → Int32) (p1_n : Int32) (p1_cells : Nat → Int32) (x3 : Int32) (x4 : Int32) {K : Int32 → (Nat → Int32) → Prop} (hx : p.tables.exec = Jvm.exec) (hb : c.code = cX3_fits) (hml : c.maxLocals = 11) (hown : s.vm.findClass RX3 = some m.cls) (hts : ∀ w ∈ wsX3_fits, w.before args s = true) (hK : va_K G vwCl (tyL Y) s) (hE : Ev A tF s) (hA : ∀ q, s.heap.size ≤ q → A q) (hRf : 1 ≤ R.frames) (hRl : 22 ≤ R.locals) (hret : ∀ (r : Int32) (t_images : Nat → Int32) (H : Heap) (locs : List Loc) (ls : Array Slot) (pc : Nat), va_P G vwCl (w_X3_fits_al Y h_t h_p1 B_t B_p1 t_used t_images t_signsHere t_signsThere p1_n p1_cells) H → va_D A (w_X3_fits_al Y h_t h_p1 B_t B_p1 t_used t_images t_signsHere t_signsThere p1_n p1_cells) → va_S A s.heap H locs → zb r → K r t_images → decode cX3_fits pc = .ok (.ireturn, 1) → W p l e R s m args below meth c H locs 0 0 Q (F0 m pc ls [.int r])) (hP : va_P G vwCl (w_X3_fits_al Y h_t h_p1 B_t B_p1 t_used t_images t_signsHere t_signsThere p1_n p1_cells) s.heap) (hD : va_D A (w_X3_fits_al Y h_t h_p1 B_t B_p1 t_used t_images t_signsHere t_signsThere p1_n p1_cells)) (h : pX3_fits t_used t_images t_signsHere t_signsThere p1_cells p1_cells x3 x4 K) : W p l e R s m args below meth c s.heap [] 0 0 Q (entryFrame m ([.ref h_t, .ref h_p1, .ref h_p1, .int x3, .int x4] : List Value).toArray 11) := by
  have inX3 : ∀ w ∈ u_ws RX3 TX3 4, w ∈ wsX3_fits := by decide +kernel
  have hf15 := hts (.fieldLink RX3 15 "RackBench$Matcher" "signsThere" "[I") (by decide +kernel)
  have hf18 := hts (.fieldLink RX3 18 "RackBench$Matcher" "images" "[I") (by decide +kernel)
  have hf21 := hts (.fieldLink RX3 21 "RackBench$Matcher" "used" "I") (by decide +kernel)
  have hf9 := hts (.fieldLink RX3 9 "RackBench$Matcher" "signsHere" "[I") (by decide +kernel)
  have hl := lv_entry ([.ref h_t, .ref h_p1, .ref h_p1, .int x3, .int x4]) (n := 11) (Nat.le_of_ble_eq_true rfl)
  rw [lg_entry_eq]
  generalize (lg_sl ([.ref h_t, .ref h_p1, .ref h_p1, .int x3, .int x4]) ++ List.replicate (11 - (lg_sl ([.ref h_t, .ref h_p1, .ref h_p1, .int x3, .int x4])).length) Slot.unset).toArray = ls at hl ⊢
  have hl : lv_has ls 11 [(0, .ref h_t), (1, .ref h_p1), (2, .ref h_p1), (3, .int x3), (4, .int x4)] := hl
  generalize hH0 : s.heap = H at hP ⊢
  have hS : va_S A s.heap H [] := by rw [← hH0]; exact va_S.rf
  clear hH0
  generalize ([] : List Loc) = locs at hS ⊢
  refine lv_aload_n hx hb dX3_fits_0 rfl (lv_at hl 0 rfl) ?_
  refine va_get (D := G) (ci := 3) (v := .ref (B_t 0)) (C := RX3) (T := TX3) (N := 4) hx hb hts inX3 hown hK hP 0 rfl rfl 0 (by decide) hf9 (fun _ h9 => h9) rfl dX3_fits_1 ?_
  refine lv_iload_n hx hb dX3_fits_4 rfl (lv_at hl 3 rfl) ?_
  obtain ⟨hin, h⟩ := h
  refine va_iald hx hb hK hP 2 0 rfl rfl hin dX3_fits_5 ?_
  refine lv_aload_n hx hb dX3_fits_6 rfl (lv_at hl 0 rfl) ?_
  refine va_get (D := G) (ci := 3) (v := .ref (B_t 1)) (C := RX3) (T := TX3) (N := 4) hx hb hts inX3 hown hK hP 0 rfl rfl 1 (by decide) hf15 (fun _ h9 => h9) rfl dX3_fits_7 ?_
  refine lv_iload hx hb dX3_fits_10 (lv_at hl 4 rfl) ?_
  obtain ⟨hin, h⟩ := h
  refine va_iald hx hb hK hP 3 0 rfl rfl hin dX3_fits_12 ?_
  obtain ⟨ht, hf⟩ := h
  refine lv_icmp_eq (tgt := 18) hx hb dX3_fits_13 (by decide) (fun c9 => ?_) (fun c9 => ?_)
  · have h := ht c9
    refine lv_aload_n hx hb dX3_fits_18 rfl (lv_at hl 0 rfl) ?_
    refine va_get (D := G) (ci := 3) (v := .ref (B_t 2)) (C := RX3) (T := TX3) (N := 4) hx hb hts inX3 hown hK hP 0 rfl rfl 2 (by decide) hf18 (fun _ h9 => h9) rfl dX3_fits_19 ?_
    refine lv_iload_n hx hb dX3_fits_22 rfl (lv_at hl 3 rfl) ?_
    refine lv_iload hx hb dX3_fits_23 (lv_at hl 4 rfl) ?_
    obtain ⟨hin, h⟩ := h
    refine va_iast hx hb hK hP hD hS 1 0 rfl rfl hin dX3_fits_25 (fun H locs hP hD hS => ?_)
    have hP : va_P G vwCl (w_X3_fits_al Y h_t h_p1 B_t B_p1 t_used (upd t_images (Int32.toNatClampNeg x3) x4) t_signsHere t_signsThere p1_n p1_cells) H := hP
    have hD : va_D A (w_X3_fits_al Y h_t h_p1 B_t B_p1 t_used (upd t_images (Int32.toNatClampNeg x3) x4) t_signsHere t_signsThere p1_n p1_cells) := hD
    refine lv_aload_n hx hb dX3_fits_26 rfl (lv_at hl 0 rfl) ?_
    refine va_get (D := G) (ci := 3) (v := .int t_used) (C := RX3) (T := TX3) (N := 4) hx hb hts inX3 hown hK hP 0 rfl rfl 3 (by decide) hf21 (fun _ h9 => h9) rfl dX3_fits_27 ?_
    refine lv_iconst (v := 1) hx hb dX3_fits_30 (by decide) ?_
    refine lv_iload hx hb dX3_fits_31 (lv_at hl 4 rfl) ?_
    refine lv_ishl hx hb dX3_fits_33 ?_
    refine lv_ior hx hb dX3_fits_34 ?_
    refine lv_istore (lv' := [(5, .int (t_used ||| ((1 : Int32) <<< (x4 &&& 31)))), (0, .ref h_t), (1, .ref h_p1), (2, .ref h_p1), (3, .int x3), (4, .int x4)]) hx hb dX3_fits_35 hl (by decide) rfl (fun ls hl => ?_)
    refine lv_iconst (v := 0) hx hb dX3_fits_37 (by decide) ?_
    refine lv_istore (lv' := [(6, .int (0 : Int32)), (5, .int (t_used ||| ((1 : Int32) <<< (x4 &&& 31)))), (0, .ref h_t), (1, .ref h_p1), (2, .ref h_p1), (3, .int x3), (4, .int x4)]) hx hb dX3_fits_38 hl (by decide) rfl (fun ls hl => ?_)
    obtain ⟨I40, m40, hI40, hB40⟩ := h
    have L40 : ∀ (x3 : Int32) (x5 : Int32) (t_images : Nat → Int32) (I40 : Int32 → Prop) (m40 : Int32 → Nat), (∀ (x6 : Int32), I40 x6 → pX3_fits_40 t_used t_signsHere t_signsThere p1_cells p1_cells K x3 x5 t_images x6 (fun x6' => I40 x6' ∧ m40 x6' < m40 x6)) → ∀ (n : Nat) (x6 : Int32) (H : Heap) (locs : List Loc) (ls : Array Slot), I40 x6 → m40 x6 < n → va_P G vwCl (w_X3_fits_al Y h_t h_p1 B_t B_p1 t_used t_images t_signsHere t_signsThere p1_n p1_cells) H → va_D A (w_X3_fits_al Y h_t h_p1 B_t B_p1 t_used t_images t_signsHere t_signsThere p1_n p1_cells) → va_S A s.heap H locs → lv_has ls 11 [(0, .ref h_t), (1, .ref h_p1), (2, .ref h_p1), (3, .int x3), (5, .int x5), (6, .int x6)] → W p l e R s m args below meth c H locs 0 0 Q (F0 m 40 ls []) := by
      intro x3 x5 t_images I40 m40 hB40 n
      induction n with
      | zero => intro x6 H locs ls _ hm; exact absurd hm (Nat.not_lt_zero _)
      | succ n ih =>
        intro x6 H locs ls hI hm hP hD hS hl
        obtain ⟨R40, h, rec40⟩ : ∃ R40 : Int32 → Prop, pX3_fits_40 t_used t_signsHere t_signsThere p1_cells p1_cells K x3 x5 t_images x6 R40 ∧ ∀ (x6 : Int32) (H : Heap) (locs : List Loc) (ls : Array Slot), R40 x6 → va_P G vwCl (w_X3_fits_al Y h_t h_p1 B_t B_p1 t_used t_images t_signsHere t_signsThere p1_n p1_cells) H → va_D A (w_X3_fits_al Y h_t h_p1 B_t B_p1 t_used t_images t_signsHere t_signsThere p1_n p1_cells) → va_S A s.heap H locs → lv_has ls 11 [(0, .ref h_t), (1, .ref h_p1), (2, .ref h_p1), (3, .int x3), (5, .int x5), (6, .int x6)] → W p l e R s m args below meth c H locs 0 0 Q (F0 m 40 ls []) := ⟨_, hB40 x6 hI, fun x6 H locs ls hh hP hD hS hl => ih x6 H locs ls hh.1 (Nat.lt_of_lt_of_le hh.2 (Nat.le_of_lt_succ hm)) hP hD hS hl⟩
        refine lv_iload hx hb dX3_fits_40 (lv_at hl 5 rfl) ?_
        refine lv_iload_n hx hb dX3_fits_42 rfl (lv_at hl 3 rfl) ?_
        obtain ⟨ht, hf⟩ := h
        refine lv_icmp_gt (tgt := 147) hx hb dX3_fits_43 (by decide) (fun c9 => ?_) (fun c9 => ?_)
        · have h := ht c9
          refine lv_iconst (v := 1) hx hb dX3_fits_147 (by decide) ?_
          obtain ⟨hz, h⟩ := h
          exact hret (1 : Int32) t_images H locs ls _ hP hD hS hz h dX3_fits_148
        · have h := hf c9
          refine lv_iconst (v := 0) hx hb dX3_fits_46 (by decide) ?_
          refine lv_istore (lv' := [(7, .int (0 : Int32)), (0, .ref h_t), (1, .ref h_p1), (2, .ref h_p1), (3, .int x3), (5, .int x5), (6, .int x6)]) hx hb dX3_fits_47 hl (by decide) rfl (fun ls hl => ?_)
          obtain ⟨I49, m49, hI49, hB49⟩ := h
          have L49 : ∀ (x6 : Int32) (I49 : Int32 → Prop) (m49 : Int32 → Nat), (∀ (x7 : Int32), I49 x7 → pX3_fits_49 t_used t_signsHere t_signsThere p1_cells p1_cells R40 K x3 x5 t_images x6 x7 (fun x7' => I49 x7' ∧ m49 x7' < m49 x7)) → ∀ (n : Nat) (x7 : Int32) (H : Heap) (locs : List Loc) (ls : Array Slot), I49 x7 → m49 x7 < n → va_P G vwCl (w_X3_fits_al Y h_t h_p1 B_t B_p1 t_used t_images t_signsHere t_signsThere p1_n p1_cells) H → va_D A (w_X3_fits_al Y h_t h_p1 B_t B_p1 t_used t_images t_signsHere t_signsThere p1_n p1_cells) → va_S A s.heap H locs → lv_has ls 11 [(0, .ref h_t), (1, .ref h_p1), (2, .ref h_p1), (3, .int x3), (5, .int x5), (6, .int x6), (7, .int x7)] → W p l e R s m args below meth c H locs 0 0 Q (F0 m 49 ls []) := by
            intro x6 I49 m49 hB49 n
            induction n with
            | zero => intro x7 H locs ls _ hm; exact absurd hm (Nat.not_lt_zero _)
            | succ n ih =>
              intro x7 H locs ls hI hm hP hD hS hl
              obtain ⟨R49, h, rec49⟩ : ∃ R49 : Int32 → Prop, pX3_fits_49 t_used t_signsHere t_signsThere p1_cells p1_cells R40 K x3 x5 t_images x6 x7 R49 ∧ ∀ (x7 : Int32) (H : Heap) (locs : List Loc) (ls : Array Slot), R49 x7 → va_P G vwCl (w_X3_fits_al Y h_t h_p1 B_t B_p1 t_used t_images t_signsHere t_signsThere p1_n p1_cells) H → va_D A (w_X3_fits_al Y h_t h_p1 B_t B_p1 t_used t_images t_signsHere t_signsThere p1_n p1_cells) → va_S A s.heap H locs → lv_has ls 11 [(0, .ref h_t), (1, .ref h_p1), (2, .ref h_p1), (3, .int x3), (5, .int x5), (6, .int x6), (7, .int x7)] → W p l e R s m args below meth c H locs 0 0 Q (F0 m 49 ls []) := ⟨_, hB49 x7 hI, fun x7 H locs ls hh hP hD hS hl => ih x7 H locs ls hh.1 (Nat.lt_of_lt_of_le hh.2 (Nat.le_of_lt_succ hm)) hP hD hS hl⟩
              have J126 : ∀ (x7 : Int32) (s0 : Int32) (H : Heap) (locs : List Loc) (ls : Array Slot), pX3_fits_126 t_used t_signsHere t_signsThere p1_cells p1_cells R40 R49 K x3 x5 t_images x6 x7 s0 → va_P G vwCl (w_X3_fits_al Y h_t h_p1 B_t B_p1 t_used t_images t_signsHere t_signsThere p1_n p1_cells) H → va_D A (w_X3_fits_al Y h_t h_p1 B_t B_p1 t_used t_images t_signsHere t_signsThere p1_n p1_cells) → va_S A s.heap H locs → lv_has ls 11 [(0, .ref h_t), (1, .ref h_p1), (2, .ref h_p1), (3, .int x3), (5, .int x5), (6, .int x6), (7, .int x7)] → W p l e R s m args below meth c H locs 0 0 Q (F0 m 126 ls [.int s0]) := by
                intro x7 s0 H locs ls h hP hD hS hl
                refine lv_istore (lv' := [(10, .int s0), (0, .ref h_t), (1, .ref h_p1), (2, .ref h_p1), (3, .int x3), (5, .int x5), (6, .int x6), (7, .int x7)]) hx hb dX3_fits_126 hl (by decide) rfl (fun ls hl => ?_)
                refine lv_iload hx hb dX3_fits_128 (lv_at hl 0 rfl) ?_
                obtain ⟨ht, hf⟩ := h
                refine lv_if_ne (tgt := 135) hx hb dX3_fits_130 (by decide) (fun c9 => ?_) (fun c9 => ?_)
                · have h := ht c9
                  refine lv_iinc (v := (x7 + 1)) (lv' := [(7, .int (x7 + 1)), (10, .int s0), (0, .ref h_t), (1, .ref h_p1), (2, .ref h_p1), (3, .int x3), (5, .int x5), (6, .int x6)]) hx hb dX3_fits_135 hl (k := 7) rfl rfl (by decide) rfl (fun ls hl => ?_)
                  refine lv_goto (tgt := 49) hx hb dX3_fits_138 (by decide) ?_
                  exact rec49 (x7 + 1) H locs ls h hP hD hS (lv_sub hl [2, 3, 4, 5, 6, 7, 0] rfl)
                · have h := hf c9
                  refine lv_iconst (v := 0) hx hb dX3_fits_133 (by decide) ?_
                  obtain ⟨hz, h⟩ := h
                  exact hret (0 : Int32) t_images H locs ls _ hP hD hS hz h dX3_fits_134
              refine lv_iload hx hb dX3_fits_49 (lv_at hl 6 rfl) ?_
              refine lv_iload_n hx hb dX3_fits_51 rfl (lv_at hl 3 rfl) ?_
              obtain ⟨ht, hf⟩ := h
              refine lv_icmp_gt (tgt := 141) hx hb dX3_fits_52 (by decide) (fun c9 => ?_) (fun c9 => ?_)
              · have h := ht c9
                refine lv_iinc (v := (x6 + 1)) (lv' := [(6, .int (x6 + 1)), (0, .ref h_t), (1, .ref h_p1), (2, .ref h_p1), (3, .int x3), (5, .int x5), (7, .int x7)]) hx hb dX3_fits_141 hl (k := 5) rfl rfl (by decide) rfl (fun ls hl => ?_)
                refine lv_goto (tgt := 40) hx hb dX3_fits_144 (by decide) ?_
                exact rec40 (x6 + 1) H locs ls h hP hD hS (lv_sub hl [1, 2, 3, 4, 5, 0] rfl)
              · have h := hf c9
                refine lv_aload_n hx hb dX3_fits_55 rfl (lv_at hl 1 rfl) ?_
                refine lv_iload hx hb dX3_fits_56 (lv_at hl 5 rfl) ?_
                refine lv_iload hx hb dX3_fits_58 (lv_at hl 6 rfl) ?_
                refine mc_iV ⟨hx, hb, hml, hown, hts⟩ hK hE hA hP hD hS (c_X7_turned l G Y tF H.size h_p1 B_p1 p1_n p1_cells x6 x7 h) (cwV 2 hts gX3_fits_X7_turned rfl rfl rfl (by decide +kernel) ⟨Nat.le_trans (by decide) hRf, Nat.le_trans (by decide) hRl⟩) (fun u => (w_X3_fits_al Y h_t h_p1 B_t B_p1 t_used t_images t_signsHere t_signsThere p1_n p1_cells)) [4, 5] [0, 1, 2, 3] [0, 1, 2, 3, 4, 5] rfl rfl rfl rfl (by decide) (fun _ => rfl) rfl 4 6 rfl rfl rfl rfl hl.1 rfl (Nat.le_of_ble_eq_true rfl) dX3_fits_60 (fun r60 u H locs h hP hD hS => ?_)
                try dsimp only at h
                have hP : va_P G vwCl (w_X3_fits_al Y h_t h_p1 B_t B_p1 t_used t_images t_signsHere t_signsThere p1_n p1_cells) H := hP
                have hD : va_D A (w_X3_fits_al Y h_t h_p1 B_t B_p1 t_used t_images t_signsHere t_signsThere p1_n p1_cells) := hD
                refine lv_istore (lv' := [(8, .int r60), (0, .ref h_t), (1, .ref h_p1), (2, .ref h_p1), (3, .int x3), (5, .int x5), (6, .int x6), (7, .int x7)]) hx hb dX3_fits_63 hl (by decide) rfl (fun ls hl => ?_)
                refine lv_aload_n hx hb dX3_fits_65 rfl (lv_at hl 3 rfl) ?_
                refine lv_aload_n hx hb dX3_fits_66 rfl (lv_at hl 1 rfl) ?_
                refine va_get (D := G) (ci := 3) (v := .ref (B_t 2)) (C := RX3) (T := TX3) (N := 4) hx hb hts inX3 hown hK hP 0 rfl rfl 2 (by decide) hf18 (fun _ h9 => h9) rfl dX3_fits_67 ?_
                refine lv_iload hx hb dX3_fits_70 (lv_at hl 6 rfl) ?_
                obtain ⟨hin, h⟩ := h
                refine va_iald hx hb hK hP 1 0 rfl rfl hin dX3_fits_72 ?_
                refine lv_aload_n hx hb dX3_fits_73 rfl (lv_at hl 1 rfl) ?_
                refine va_get (D := G) (ci := 3) (v := .ref (B_t 2)) (C := RX3) (T := TX3) (N := 4) hx hb hts inX3 hown hK hP 0 rfl rfl 2 (by decide) hf18 (fun _ h9 => h9) rfl dX3_fits_74 ?_
                refine lv_iload hx hb dX3_fits_77 (lv_at hl 7 rfl) ?_
                obtain ⟨hin, h⟩ := h
                refine va_iald hx hb hK hP 1 0 rfl rfl hin dX3_fits_79 ?_
                refine mc_iV ⟨hx, hb, hml, hown, hts⟩ hK hE hA hP hD hS (c_X7_turned l G Y tF H.size h_p1 B_p1 p1_n p1_cells (t_images (Int32.toNatClampNeg x6)) (t_images (Int32.toNatClampNeg x7)) h) (cwV 2 hts gX3_fits_X7_turned rfl rfl rfl (by decide +kernel) ⟨Nat.le_trans (by decide) hRf, Nat.le_trans (by decide) hRl⟩) (fun u => (w_X3_fits_al Y h_t h_p1 B_t B_p1 t_used t_images t_signsHere t_signsThere p1_n p1_cells)) [4, 5] [0, 1, 2, 3] [0, 1, 2, 3, 4, 5] rfl rfl rfl rfl (by decide) (fun _ => rfl) rfl 4 6 rfl rfl rfl rfl hl.1 rfl (Nat.le_of_ble_eq_true rfl) dX3_fits_80 (fun r80 u H locs h hP hD hS => ?_)
                try dsimp only at h
                have hP : va_P G vwCl (w_X3_fits_al Y h_t h_p1 B_t B_p1 t_used t_images t_signsHere t_signsThere p1_n p1_cells) H := hP
                have hD : va_D A (w_X3_fits_al Y h_t h_p1 B_t B_p1 t_used t_images t_signsHere t_signsThere p1_n p1_cells) := hD
                refine lv_istore (lv' := [(9, .int r80), (8, .int r60), (0, .ref h_t), (1, .ref h_p1), (2, .ref h_p1), (3, .int x3), (5, .int x5), (6, .int x6), (7, .int x7)]) hx hb dX3_fits_83 hl (by decide) rfl (fun ls hl => ?_)
                refine lv_iload hx hb dX3_fits_85 (lv_at hl 1 rfl) ?_
                refine lv_iload_n hx hb dX3_fits_87 rfl (lv_at hl 5 rfl) ?_
                obtain ⟨ht, hf⟩ := h
                refine lv_icmp_gt (tgt := 111) hx hb dX3_fits_88 (by decide) (fun c9 => ?_) (fun c9 => ?_)
                · have h := ht c9
                  refine lv_iload hx hb dX3_fits_111 (lv_at hl 6 rfl) ?_
                  refine lv_iload hx hb dX3_fits_113 (lv_at hl 0 rfl) ?_
                  refine lv_ishr hx hb dX3_fits_115 ?_
                  refine lv_iconst (v := 1) hx hb dX3_fits_116 (by decide) ?_
                  refine lv_iand hx hb dX3_fits_117 ?_
                  obtain ⟨ht, hf⟩ := h
                  refine lv_if_ne (tgt := 125) hx hb dX3_fits_118 (by decide) (fun c9 => ?_) (fun c9 => ?_)
                  · have h := ht c9
                    refine lv_iconst (v := 0) hx hb dX3_fits_125 (by decide) ?_
                    exact J126 x7 (0 : Int32) H locs ls h hP hD hS (lv_sub hl [2, 3, 4, 5, 6, 7, 8] rfl)
                  · have h := hf c9
                    refine lv_iconst (v := 1) hx hb dX3_fits_121 (by decide) ?_
                    refine lv_goto (tgt := 126) hx hb dX3_fits_122 (by decide) ?_
                    exact J126 x7 (1 : Int32) H locs ls h hP hD hS (lv_sub hl [2, 3, 4, 5, 6, 7, 8] rfl)
                · have h := hf c9
                  refine lv_aload_n hx hb dX3_fits_91 rfl (lv_at hl 2 rfl) ?_
                  refine va_get (D := G) (ci := 3) (v := .ref (B_t 2)) (C := RX3) (T := TX3) (N := 4) hx hb hts inX3 hown hK hP 0 rfl rfl 2 (by decide) hf18 (fun _ h9 => h9) rfl dX3_fits_92 ?_
                  refine lv_iload hx hb dX3_fits_95 (lv_at hl 1 rfl) ?_
                  obtain ⟨hin, h⟩ := h
                  refine va_iald hx hb hK hP 1 0 rfl rfl hin dX3_fits_97 ?_
                  refine lv_iload hx hb dX3_fits_98 (lv_at hl 0 rfl) ?_
                  obtain ⟨ht, hf⟩ := h
                  refine lv_icmp_ne (tgt := 107) hx hb dX3_fits_100 (by decide) (fun c9 => ?_) (fun c9 => ?_)
                  · have h := ht c9
                    refine lv_iconst (v := 0) hx hb dX3_fits_107 (by decide) ?_
                    refine lv_goto (tgt := 126) hx hb dX3_fits_108 (by decide) ?_
                    exact J126 x7 (0 : Int32) H locs ls h hP hD hS (lv_sub hl [2, 3, 4, 5, 6, 7, 8] rfl)
                  · have h := hf c9
                    refine lv_iconst (v := 1) hx hb dX3_fits_103 (by decide) ?_
                    refine lv_goto (tgt := 126) hx hb dX3_fits_104 (by decide) ?_
                    exact J126 x7 (1 : Int32) H locs ls h hP hD hS (lv_sub hl [2, 3, 4, 5, 6, 7, 8] rfl)
          exact L49 x6 I49 m49 hB49 _ (0 : Int32) H locs ls hI49 (Nat.lt_succ_self _) hP hD hS (lv_sub hl [1, 2, 3, 4, 5, 6, 0] rfl)
    exact L40 x3 (t_used ||| ((1 : Int32) <<< (x4 &&& 31))) (upd t_images (Int32.toNatClampNeg x3) x4) I40 m40 hB40 _ (0 : Int32) H locs ls hI40 (Nat.lt_succ_self _) hP hD hS (lv_sub hl [2, 3, 4, 5, 1, 0] rfl)
  · have h := hf c9
    refine lv_iconst (v := 0) hx hb dX3_fits_16 (by decide) ?_
    obtain ⟨hz, h⟩ := h
    exact hret (0 : Int32) t_images H locs ls _ hP hD hS hz h dX3_fits_17

set_option maxHeartbeats 4000000 in
set_option maxRecDepth 100000 in
theorem c_X3_fits_al (l : Launch) (G : va_G) (Y : Nat → ClassId) (tF sz : Nat) (h_t : Nat) (h_p1 : Nat) (B_t : Nat → Nat) (B_p1 : Nat → Nat) (t_used : Int32) (t_images : Nat → Int32) (t_signsHere : Nat → Int32) (t_signsThere : Nat → Int32) (p1_n : Int32) (p1_cells : Nat → Int32) (x3 : Int32) (x4 : Int32) {K : Int32 → (Nat → Int32) → Prop} (h : pX3_fits t_used t_images t_signsHere t_signsThere p1_cells p1_cells x3 x4 K) : Met l yX3_fits wsX3_fits ({ frames := 1, cells := 0, slots := 0, locals := 22 }) (PcM G Y tF sz (w_X3_fits_al Y h_t h_p1 B_t B_p1 t_used t_images t_signsHere t_signsThere p1_n p1_cells) [.ref h_t, .ref h_p1, .ref h_p1, .int x3, .int x4]) (va_Qi (fun (r : Int32) (u : (Nat → Int32)) => K r u) (fun u t => BM G Y (va_A (w_X3_fits_al Y h_t h_p1 B_t B_p1 t_used t_images t_signsHere t_signsThere p1_n p1_cells) sz) (w_X3_fits_al Y h_t h_p1 B_t B_p1 t_used u t_signsHere t_signsThere p1_n p1_cells) t) (va_A (w_X3_fits_al Y h_t h_p1 B_t B_p1 t_used t_images t_signsHere t_signsThere p1_n p1_cells) sz)) 0 0 (va_A (w_X3_fits_al Y h_t h_p1 B_t B_p1 t_used t_images t_signsHere t_signsThere p1_n p1_cells) sz) := by
  refine Met.ofW (cc := cX3_fits) (maxL := 11) (ret := (some .boolean)) (by decide +kernel) rfl ?_
  intro p e s m args below meth c s₁ B hml hv
  obtain ⟨rfl, hsz, hP, hK, hD0, hE⟩ := hv
  have hts := atoms_spec (ws := wsX3_fits) B.pre
  have hown : s.vm.findClass RX3 = some m.cls := findClass_of_methodNamed B.named
  have hlocks := B.notSynchronized
  subst hsz
  have hD := hD0.self (sz := s.heap.size)
  exact wk_X3_fits_al h_t h_p1 B_t B_p1 t_used t_images t_signsHere t_signsThere p1_n p1_cells x3 x4 B.exec B.bytes hml hown hts hK hE (fun q h => Or.inr h) (Nat.le_refl _) (Nat.le_refl _) (fun r t_images H locs ls pc hP hD hS hz hk hd => W.zret (v := r) B.exec B.bytes B.returns hz.n (fun t ht hW => ⟨⟨r, t_images, rfl, hk, by rw [ht]; exact hP, va_K.moved hW.alike hK, hD⟩, hS.F ht⟩) hS.2.2 hd) hP hD h

abbrev w_X3_canGoOn (Y : Nat → ClassId) (h_t : Nat) (h_p1 : Nat) (h_p2 : Nat) (B_t : Nat → Nat) (B_p1 : Nat → Nat) (B_p2 : Nat → Nat) (t_used : Int32) (t_images : Nat → Int32) (t_signsHere : Nat → Int32) (t_signsThere : Nat → Int32) (p1_n : Int32) (p1_cells : Nat → Int32) (p2_n : Int32) (p2_cells : Nat → Int32) : va_W := [(h_t, .inr (3, [.ref (B_t 0), .ref (B_t 1), .ref (B_t 2), .int t_used])), ((B_t 2), .inl (Y 0, 8, .inl t_images)), ((B_t 0), .inl (Y 0, 8, .inl t_signsHere)), ((B_t 1), .inl (Y 0, 8, .inl t_signsThere)), (h_p1, .inr (6, [.ref (B_p1 0), .int p1_n])), ((B_p1 0), .inl (Y 0, 64, .inl p1_cells)), (h_p2, .inr (6, [.ref (B_p2 0), .int p2_n])), ((B_p2 0), .inl (Y 0, 64, .inl p2_cells))]

abbrev w_X3_canGoOn_al (Y : Nat → ClassId) (h_t : Nat) (h_p1 : Nat) (B_t : Nat → Nat) (B_p1 : Nat → Nat) (t_used : Int32) (t_images : Nat → Int32) (t_signsHere : Nat → Int32) (t_signsThere : Nat → Int32) (p1_n : Int32) (p1_cells : Nat → Int32) : va_W := [(h_t, .inr (3, [.ref (B_t 0), .ref (B_t 1), .ref (B_t 2), .int t_used])), ((B_t 2), .inl (Y 0, 8, .inl t_images)), ((B_t 0), .inl (Y 0, 8, .inl t_signsHere)), ((B_t 1), .inl (Y 0, 8, .inl t_signsThere)), (h_p1, .inr (6, [.ref (B_p1 0), .int p1_n])), ((B_p1 0), .inl (Y 0, 64, .inl p1_cells))]

abbrev w_X3_canGoOnWith (Y : Nat → ClassId) (h_t : Nat) (h_p1 : Nat) (h_p2 : Nat) (B_t : Nat → Nat) (B_p1 : Nat → Nat) (B_p2 : Nat → Nat) (t_used : Int32) (t_images : Nat → Int32) (t_signsHere : Nat → Int32) (t_signsThere : Nat → Int32) (p1_n : Int32) (p1_cells : Nat → Int32) (p2_n : Int32) (p2_cells : Nat → Int32) : va_W := [(h_t, .inr (3, [.ref (B_t 0), .ref (B_t 1), .ref (B_t 2), .int t_used])), ((B_t 2), .inl (Y 0, 8, .inl t_images)), ((B_t 0), .inl (Y 0, 8, .inl t_signsHere)), ((B_t 1), .inl (Y 0, 8, .inl t_signsThere)), (h_p1, .inr (6, [.ref (B_p1 0), .int p1_n])), ((B_p1 0), .inl (Y 0, 64, .inl p1_cells)), (h_p2, .inr (6, [.ref (B_p2 0), .int p2_n])), ((B_p2 0), .inl (Y 0, 64, .inl p2_cells))]

abbrev w_X3_canGoOnWith_al (Y : Nat → ClassId) (h_t : Nat) (h_p1 : Nat) (B_t : Nat → Nat) (B_p1 : Nat → Nat) (t_used : Int32) (t_images : Nat → Int32) (t_signsHere : Nat → Int32) (t_signsThere : Nat → Int32) (p1_n : Int32) (p1_cells : Nat → Int32) : va_W := [(h_t, .inr (3, [.ref (B_t 0), .ref (B_t 1), .ref (B_t 2), .int t_used])), ((B_t 2), .inl (Y 0, 8, .inl t_images)), ((B_t 0), .inl (Y 0, 8, .inl t_signsHere)), ((B_t 1), .inl (Y 0, 8, .inl t_signsThere)), (h_p1, .inr (6, [.ref (B_p1 0), .int p1_n])), ((B_p1 0), .inl (Y 0, 64, .inl p1_cells))]

set_option maxHeartbeats 4000000 in
set_option maxRecDepth 100000 in
theorem wk_X3_canGoOnWith {p : Program} {l : Launch} {e : Env} {R : Room} {s : State} {m : MethodId} {args : Array Value} {below : List Frame} {meth : Method} {c : Code} {Q : State → Prop} {G : va_G} {Y : Nat → ClassId} {tF : Nat} {A : Nat → Prop} (h_t : Nat) (h_p1 : Nat) (h_p2 : Nat) (B_t : Nat → Nat) (B_p1 : Nat → Nat) (B_p2 : Nat → Nat) (t_used : Int32) (t_images : Nat → Int32) (t_signsHere : Nat → Int32) (t_signsThere : Nat → Int32) (p1_n : Int32) (p1_cells : Nat → Int32) (p2_n : Int32) (p2_cells : Nat → Int32) (x3 : Int32) (x4 : Int32) {rec : Int32 → (Nat → Int32) → (Nat → Int32) → (Nat → Int32) → Int32 → (Nat → Int32) → Int32 → (Nat → Int32) → Int32 → (Int32 → Int32 → (Nat → Int32) → Prop) → Prop} {fB lB : Nat} (hRcF : fB + 1 ≤ R.frames) (hRcL : 8 + (5 + 11) + lB ≤ R.locals) (hrec : ∀ (sz : Nat) (h_t : Nat) (h_p1 : Nat) (h_p2 : Nat) (B_t : Nat → Nat) (B_p1 : Nat → Nat) (B_p2 : Nat → Nat) (t_used : Int32) (t_images : Nat → Int32) (t_signsHere : Nat → Int32) (t_signsThere : Nat → Int32) (p1_n : Int32) (p1_cells : Nat → Int32) (p2_n : Int32) (p2_cells : Nat → Int32) (x3 : Int32) {K : Int32 → Int32 → (Nat → Int32) → Prop}, rec t_used t_images t_signsHere t_signsThere p1_n p1_cells p2_n p2_cells x3 K → Met l yX3_canGoOn wsX3_canGoOn ({ frames := fB, cells := 0, slots := 0, locals := lB }) (PcM G Y tF sz (w_X3_canGoOn Y h_t h_p1 h_p2 B_t B_p1 B_p2 t_used t_images t_signsHere t_signsThere p1_n p1_cells p2_n p2_cells) [.ref h_t, .ref h_p1, .ref h_p2, .int x3]) (va_Qi (fun (r : Int32) (u : Int32 × (Nat → Int32)) => K r u.1 u.2) (fun u t => BM G Y (va_A (w_X3_canGoOn Y h_t h_p1 h_p2 B_t B_p1 B_p2 t_used t_images t_signsHere t_signsThere p1_n p1_cells p2_n p2_cells) sz) (w_X3_canGoOn Y h_t h_p1 h_p2 B_t B_p1 B_p2 u.1 u.2 t_signsHere t_signsThere p1_n p1_cells p2_n p2_cells) t) (va_A (w_X3_canGoOn Y h_t h_p1 h_p2 B_t B_p1 B_p2 t_used t_images t_signsHere t_signsThere p1_n p1_cells p2_n p2_cells) sz)) 0 0 (va_A (w_X3_canGoOn Y h_t h_p1 h_p2 B_t B_p1 B_p2 t_used t_images t_signsHere t_signsThere p1_n p1_cells p2_n p2_cells) sz)) {K : Int32 → Int32 → (Nat → Int32) → Prop} (hx : p.tables.exec = Jvm.exec) (hb : c.code = cX3_canGoOnWith) (hml : c.maxLocals = 6) (hown : s.vm.findClass RX3 = some m.cls) (hts : ∀ w ∈ wsX3_canGoOnWith, w.before args s = true) (hK : va_K G vwCl (tyL Y) s) (hE : Ev A tF s) (hA : ∀ q, s.heap.size ≤ q → A q) (hRf : 2 ≤ R.frames) (hRl : 52 ≤ R.locals) (hret : ∀ (r : Int32) (t_used : Int32) (t_images : Nat → Int32) (H : Heap) (locs : List Loc) (ls : Array Slot) (pc : Nat), va_P G vwCl (w_X3_canGoOnWith Y h_t h_p1 h_p2 B_t B_p1 B_p2 t_used t_images t_signsHere t_signsThere p1_n p1_cells p2_n p2_cells) H → va_D A (w_X3_canGoOnWith Y h_t h_p1 h_p2 B_t B_p1 B_p2 t_used t_images t_signsHere t_signsThere p1_n p1_cells p2_n p2_cells) → va_S A s.heap H locs → zb r → K r t_used t_images → decode cX3_canGoOnWith pc = .ok (.ireturn, 1) → W p l e R s m args below meth c H locs 0 0 Q (F0 m pc ls [.int r])) (hP : va_P G vwCl (w_X3_canGoOnWith Y h_t h_p1 h_p2 B_t B_p1 B_p2 t_used t_images t_signsHere t_signsThere p1_n p1_cells p2_n p2_cells) s.heap) (hD : va_D A (w_X3_canGoOnWith Y h_t h_p1 h_p2 B_t B_p1 B_p2 t_used t_images t_signsHere t_signsThere p1_n p1_cells p2_n p2_cells)) (h : pX3_canGoOnWith_b rec t_used t_images t_signsHere t_signsThere p1_n p1_cells p2_n p2_cells x3 x4 K) : W p l e R s m args below meth c s.heap [] 0 0 Q (entryFrame m ([.ref h_t, .ref h_p1, .ref h_p2, .int x3, .int x4] : List Value).toArray 6) := by
  have inX3 : ∀ w ∈ u_ws RX3 TX3 4, w ∈ wsX3_canGoOnWith := by decide +kernel
  have hf18 := hts (.fieldLink RX3 18 "RackBench$Matcher" "images" "[I") (by decide +kernel)
  have hf21 := hts (.fieldLink RX3 21 "RackBench$Matcher" "used" "I") (by decide +kernel)
  have hl := lv_entry ([.ref h_t, .ref h_p1, .ref h_p2, .int x3, .int x4]) (n := 6) (Nat.le_of_ble_eq_true rfl)
  rw [lg_entry_eq]
  generalize (lg_sl ([.ref h_t, .ref h_p1, .ref h_p2, .int x3, .int x4]) ++ List.replicate (6 - (lg_sl ([.ref h_t, .ref h_p1, .ref h_p2, .int x3, .int x4])).length) Slot.unset).toArray = ls at hl ⊢
  have hl : lv_has ls 6 [(0, .ref h_t), (1, .ref h_p1), (2, .ref h_p2), (3, .int x3), (4, .int x4)] := hl
  generalize hH0 : s.heap = H at hP ⊢
  have hS : va_S A s.heap H [] := by rw [← hH0]; exact va_S.rf
  clear hH0
  generalize ([] : List Loc) = locs at hS ⊢
  refine lv_aload_n hx hb dX3_canGoOnWith_0 rfl (lv_at hl 0 rfl) ?_
  refine va_get (D := G) (ci := 3) (v := .ref (B_t 2)) (C := RX3) (T := TX3) (N := 4) hx hb hts inX3 hown hK hP 0 rfl rfl 2 (by decide) hf18 (fun _ h9 => h9) rfl dX3_canGoOnWith_1 ?_
  refine lv_iload_n hx hb dX3_canGoOnWith_4 rfl (lv_at hl 3 rfl) ?_
  refine lv_iload hx hb dX3_canGoOnWith_5 (lv_at hl 4 rfl) ?_
  obtain ⟨hin, h⟩ := h
  refine va_iast hx hb hK hP hD hS 1 0 rfl rfl hin dX3_canGoOnWith_7 (fun H locs hP hD hS => ?_)
  have hP : va_P G vwCl (w_X3_canGoOnWith Y h_t h_p1 h_p2 B_t B_p1 B_p2 t_used (upd t_images (Int32.toNatClampNeg x3) x4) t_signsHere t_signsThere p1_n p1_cells p2_n p2_cells) H := hP
  have hD : va_D A (w_X3_canGoOnWith Y h_t h_p1 h_p2 B_t B_p1 B_p2 t_used (upd t_images (Int32.toNatClampNeg x3) x4) t_signsHere t_signsThere p1_n p1_cells p2_n p2_cells) := hD
  refine lv_aload_n hx hb dX3_canGoOnWith_8 rfl (lv_at hl 0 rfl) ?_
  refine lv_dup hx hb dX3_canGoOnWith_9 rfl ?_
  refine va_get (D := G) (ci := 3) (v := .int t_used) (C := RX3) (T := TX3) (N := 4) hx hb hts inX3 hown hK hP 0 rfl rfl 3 (by decide) hf21 (fun _ h9 => h9) rfl dX3_canGoOnWith_10 ?_
  refine lv_iconst (v := 1) hx hb dX3_canGoOnWith_13 (by decide) ?_
  refine lv_iload hx hb dX3_canGoOnWith_14 (lv_at hl 4 rfl) ?_
  refine lv_ishl hx hb dX3_canGoOnWith_16 ?_
  refine lv_ior hx hb dX3_canGoOnWith_17 ?_
  refine va_put (D := G) (ci := 3) (v := .int (t_used ||| ((1 : Int32) <<< (x4 &&& 31)))) (ty := .int) (C := RX3) (T := TX3) (N := 4) hx hb hts inX3 tyX3 tyX3_ok nmX3 hown hK hP hD hS 0 rfl rfl 3 (by decide) hf21 (fun _ h9 => h9) rfl (by decide +kernel) rfl rfl (Nat.le_of_ble_eq_true rfl) dX3_canGoOnWith_18 (fun H locs hP hD hS => ?_)
  have hP : va_P G vwCl (w_X3_canGoOnWith Y h_t h_p1 h_p2 B_t B_p1 B_p2 (t_used ||| ((1 : Int32) <<< (x4 &&& 31))) (upd t_images (Int32.toNatClampNeg x3) x4) t_signsHere t_signsThere p1_n p1_cells p2_n p2_cells) H := hP
  have hD : va_D A (w_X3_canGoOnWith Y h_t h_p1 h_p2 B_t B_p1 B_p2 (t_used ||| ((1 : Int32) <<< (x4 &&& 31))) (upd t_images (Int32.toNatClampNeg x3) x4) t_signsHere t_signsThere p1_n p1_cells p2_n p2_cells) := hD
  refine lv_aload_n hx hb dX3_canGoOnWith_21 rfl (lv_at hl 0 rfl) ?_
  refine lv_aload_n hx hb dX3_canGoOnWith_22 rfl (lv_at hl 1 rfl) ?_
  refine lv_aload_n hx hb dX3_canGoOnWith_23 rfl (lv_at hl 2 rfl) ?_
  refine lv_iload_n hx hb dX3_canGoOnWith_24 rfl (lv_at hl 3 rfl) ?_
  refine lv_iconst (v := 1) hx hb dX3_canGoOnWith_25 (by decide) ?_
  refine lv_iadd hx hb dX3_canGoOnWith_26 ?_
  refine mc_iV ⟨hx, hb, hml, hown, hts⟩ hK hE hA hP hD hS (hrec H.size h_t h_p1 h_p2 B_t B_p1 B_p2 (t_used ||| ((1 : Int32) <<< (x4 &&& 31))) (upd t_images (Int32.toNatClampNeg x3) x4) t_signsHere t_signsThere p1_n p1_cells p2_n p2_cells (x3 + (1 : Int32)) h) (cwV 3 hts gX3_canGoOnWith_X3_canGoOn rfl rfl rfl (by decide +kernel) ⟨hRcF, hRcL⟩) (fun u => (w_X3_canGoOnWith Y h_t h_p1 h_p2 B_t B_p1 B_p2 u.1 u.2 t_signsHere t_signsThere p1_n p1_cells p2_n p2_cells)) [0, 1, 2, 3, 4, 5, 6, 7] [] [0, 1, 2, 3, 4, 5, 6, 7] rfl rfl rfl rfl (by decide) (fun _ => rfl) rfl 0 3 rfl rfl rfl rfl hl.1 rfl (Nat.le_of_ble_eq_true rfl) dX3_canGoOnWith_27 (fun r27 u H locs h hP hD hS => ?_)
  obtain ⟨t_used_27, t_images_27⟩ := u
  try dsimp only at h
  have hP : va_P G vwCl (w_X3_canGoOnWith Y h_t h_p1 h_p2 B_t B_p1 B_p2 t_used_27 t_images_27 t_signsHere t_signsThere p1_n p1_cells p2_n p2_cells) H := hP
  have hD : va_D A (w_X3_canGoOnWith Y h_t h_p1 h_p2 B_t B_p1 B_p2 t_used_27 t_images_27 t_signsHere t_signsThere p1_n p1_cells p2_n p2_cells) := hD
  refine lv_istore (lv' := [(5, .int r27), (0, .ref h_t), (1, .ref h_p1), (2, .ref h_p2), (3, .int x3), (4, .int x4)]) hx hb dX3_canGoOnWith_30 hl (by decide) rfl (fun ls hl => ?_)
  refine lv_aload_n hx hb dX3_canGoOnWith_32 rfl (lv_at hl 1 rfl) ?_
  refine lv_dup hx hb dX3_canGoOnWith_33 rfl ?_
  refine va_get (D := G) (ci := 3) (v := .int t_used_27) (C := RX3) (T := TX3) (N := 4) hx hb hts inX3 hown hK hP 0 rfl rfl 3 (by decide) hf21 (fun _ h9 => h9) rfl dX3_canGoOnWith_34 ?_
  refine lv_iconst (v := 1) hx hb dX3_canGoOnWith_37 (by decide) ?_
  refine lv_iload hx hb dX3_canGoOnWith_38 (lv_at hl 5 rfl) ?_
  refine lv_ishl hx hb dX3_canGoOnWith_40 ?_
  refine lv_iconst (v := -1) hx hb dX3_canGoOnWith_41 (by decide) ?_
  refine lv_ixor hx hb dX3_canGoOnWith_42 ?_
  refine lv_iand hx hb dX3_canGoOnWith_43 ?_
  refine va_put (D := G) (ci := 3) (v := .int (t_used_27 &&& (((1 : Int32) <<< (x4 &&& 31)) ^^^ (-1 : Int32)))) (ty := .int) (C := RX3) (T := TX3) (N := 4) hx hb hts inX3 tyX3 tyX3_ok nmX3 hown hK hP hD hS 0 rfl rfl 3 (by decide) hf21 (fun _ h9 => h9) rfl (by decide +kernel) rfl rfl (Nat.le_of_ble_eq_true rfl) dX3_canGoOnWith_44 (fun H locs hP hD hS => ?_)
  have hP : va_P G vwCl (w_X3_canGoOnWith Y h_t h_p1 h_p2 B_t B_p1 B_p2 (t_used_27 &&& (((1 : Int32) <<< (x4 &&& 31)) ^^^ (-1 : Int32))) t_images_27 t_signsHere t_signsThere p1_n p1_cells p2_n p2_cells) H := hP
  have hD : va_D A (w_X3_canGoOnWith Y h_t h_p1 h_p2 B_t B_p1 B_p2 (t_used_27 &&& (((1 : Int32) <<< (x4 &&& 31)) ^^^ (-1 : Int32))) t_images_27 t_signsHere t_signsThere p1_n p1_cells p2_n p2_cells) := hD
  refine lv_iload hx hb dX3_canGoOnWith_47 (lv_at hl 0 rfl) ?_
  obtain ⟨hz, h⟩ := h
  exact hret r27 (t_used_27 &&& (((1 : Int32) <<< (x4 &&& 31)) ^^^ (-1 : Int32))) t_images_27 H locs ls _ hP hD hS hz h dX3_canGoOnWith_49

set_option maxHeartbeats 4000000 in
set_option maxRecDepth 100000 in
theorem wk_X3_canGoOnWith_al {p : Program} {l : Launch} {e : Env} {R : Room} {s : State} {m : MethodId} {args : Array Value} {below : List Frame} {meth : Method} {c : Code} {Q : State → Prop} {G : va_G} {Y : Nat → ClassId} {tF : Nat} {A : Nat → Prop} (h_t : Nat) (h_p1 : Nat) (B_t : Nat → Nat) (B_p1 : Nat → Nat) (t_used : Int32) (t_images : Nat → Int32) (t_signsHere : Nat → Int32) (t_signsThere : Nat → Int32) (p1_n : Int32) (p1_cells : Nat → Int32) (x3 : Int32) (x4 : Int32) {rec : Int32 → (Nat → Int32) → (Nat → Int32) → (Nat → Int32) → Int32 → (Nat → Int32) → Int32 → (Nat → Int32) → Int32 → (Int32 → Int32 → (Nat → Int32) → Prop) → Prop} {fB lB : Nat} (hRcF : fB + 1 ≤ R.frames) (hRcL : 8 + (5 + 11) + lB ≤ R.locals) (hrec : ∀ (sz : Nat) (h_t : Nat) (h_p1 : Nat) (B_t : Nat → Nat) (B_p1 : Nat → Nat) (t_used : Int32) (t_images : Nat → Int32) (t_signsHere : Nat → Int32) (t_signsThere : Nat → Int32) (p1_n : Int32) (p1_cells : Nat → Int32) (x3 : Int32) {K : Int32 → Int32 → (Nat → Int32) → Prop}, rec t_used t_images t_signsHere t_signsThere p1_n p1_cells p1_n p1_cells x3 K → Met l yX3_canGoOn wsX3_canGoOn ({ frames := fB, cells := 0, slots := 0, locals := lB }) (PcM G Y tF sz (w_X3_canGoOn_al Y h_t h_p1 B_t B_p1 t_used t_images t_signsHere t_signsThere p1_n p1_cells) [.ref h_t, .ref h_p1, .ref h_p1, .int x3]) (va_Qi (fun (r : Int32) (u : Int32 × (Nat → Int32)) => K r u.1 u.2) (fun u t => BM G Y (va_A (w_X3_canGoOn_al Y h_t h_p1 B_t B_p1 t_used t_images t_signsHere t_signsThere p1_n p1_cells) sz) (w_X3_canGoOn_al Y h_t h_p1 B_t B_p1 u.1 u.2 t_signsHere t_signsThere p1_n p1_cells) t) (va_A (w_X3_canGoOn_al Y h_t h_p1 B_t B_p1 t_used t_images t_signsHere t_signsThere p1_n p1_cells) sz)) 0 0 (va_A (w_X3_canGoOn_al Y h_t h_p1 B_t B_p1 t_used t_images t_signsHere t_signsThere p1_n p1_cells) sz)) {K : Int32 → Int32 → (Nat → Int32) → Prop} (hx : p.tables.exec = Jvm.exec) (hb : c.code = cX3_canGoOnWith) (hml : c.maxLocals = 6) (hown : s.vm.findClass RX3 = some m.cls) (hts : ∀ w ∈ wsX3_canGoOnWith, w.before args s = true) (hK : va_K G vwCl (tyL Y) s) (hE : Ev A tF s) (hA : ∀ q, s.heap.size ≤ q → A q) (hRf : 2 ≤ R.frames) (hRl : 52 ≤ R.locals) (hret : ∀ (r : Int32) (t_used : Int32) (t_images : Nat → Int32) (H : Heap) (locs : List Loc) (ls : Array Slot) (pc : Nat), va_P G vwCl (w_X3_canGoOnWith_al Y h_t h_p1 B_t B_p1 t_used t_images t_signsHere t_signsThere p1_n p1_cells) H → va_D A (w_X3_canGoOnWith_al Y h_t h_p1 B_t B_p1 t_used t_images t_signsHere t_signsThere p1_n p1_cells) → va_S A s.heap H locs → zb r → K r t_used t_images → decode cX3_canGoOnWith pc = .ok (.ireturn, 1) → W p l e R s m args below meth c H locs 0 0 Q (F0 m pc ls [.int r])) (hP : va_P G vwCl (w_X3_canGoOnWith_al Y h_t h_p1 B_t B_p1 t_used t_images t_signsHere t_signsThere p1_n p1_cells) s.heap) (hD : va_D A (w_X3_canGoOnWith_al Y h_t h_p1 B_t B_p1 t_used t_images t_signsHere t_signsThere p1_n p1_cells)) (h : pX3_canGoOnWith_b rec t_used t_images t_signsHere t_signsThere p1_n p1_cells p1_n p1_cells x3 x4 K) : W p l e R s m args below meth c s.heap [] 0 0 Q (entryFrame m ([.ref h_t, .ref h_p1, .ref h_p1, .int x3, .int x4] : List Value).toArray 6) := by
  have inX3 : ∀ w ∈ u_ws RX3 TX3 4, w ∈ wsX3_canGoOnWith := by decide +kernel
  have hf18 := hts (.fieldLink RX3 18 "RackBench$Matcher" "images" "[I") (by decide +kernel)
  have hf21 := hts (.fieldLink RX3 21 "RackBench$Matcher" "used" "I") (by decide +kernel)
  have hl := lv_entry ([.ref h_t, .ref h_p1, .ref h_p1, .int x3, .int x4]) (n := 6) (Nat.le_of_ble_eq_true rfl)
  rw [lg_entry_eq]
  generalize (lg_sl ([.ref h_t, .ref h_p1, .ref h_p1, .int x3, .int x4]) ++ List.replicate (6 - (lg_sl ([.ref h_t, .ref h_p1, .ref h_p1, .int x3, .int x4])).length) Slot.unset).toArray = ls at hl ⊢
  have hl : lv_has ls 6 [(0, .ref h_t), (1, .ref h_p1), (2, .ref h_p1), (3, .int x3), (4, .int x4)] := hl
  generalize hH0 : s.heap = H at hP ⊢
  have hS : va_S A s.heap H [] := by rw [← hH0]; exact va_S.rf
  clear hH0
  generalize ([] : List Loc) = locs at hS ⊢
  refine lv_aload_n hx hb dX3_canGoOnWith_0 rfl (lv_at hl 0 rfl) ?_
  refine va_get (D := G) (ci := 3) (v := .ref (B_t 2)) (C := RX3) (T := TX3) (N := 4) hx hb hts inX3 hown hK hP 0 rfl rfl 2 (by decide) hf18 (fun _ h9 => h9) rfl dX3_canGoOnWith_1 ?_
  refine lv_iload_n hx hb dX3_canGoOnWith_4 rfl (lv_at hl 3 rfl) ?_
  refine lv_iload hx hb dX3_canGoOnWith_5 (lv_at hl 4 rfl) ?_
  obtain ⟨hin, h⟩ := h
  refine va_iast hx hb hK hP hD hS 1 0 rfl rfl hin dX3_canGoOnWith_7 (fun H locs hP hD hS => ?_)
  have hP : va_P G vwCl (w_X3_canGoOnWith_al Y h_t h_p1 B_t B_p1 t_used (upd t_images (Int32.toNatClampNeg x3) x4) t_signsHere t_signsThere p1_n p1_cells) H := hP
  have hD : va_D A (w_X3_canGoOnWith_al Y h_t h_p1 B_t B_p1 t_used (upd t_images (Int32.toNatClampNeg x3) x4) t_signsHere t_signsThere p1_n p1_cells) := hD
  refine lv_aload_n hx hb dX3_canGoOnWith_8 rfl (lv_at hl 0 rfl) ?_
  refine lv_dup hx hb dX3_canGoOnWith_9 rfl ?_
  refine va_get (D := G) (ci := 3) (v := .int t_used) (C := RX3) (T := TX3) (N := 4) hx hb hts inX3 hown hK hP 0 rfl rfl 3 (by decide) hf21 (fun _ h9 => h9) rfl dX3_canGoOnWith_10 ?_
  refine lv_iconst (v := 1) hx hb dX3_canGoOnWith_13 (by decide) ?_
  refine lv_iload hx hb dX3_canGoOnWith_14 (lv_at hl 4 rfl) ?_
  refine lv_ishl hx hb dX3_canGoOnWith_16 ?_
  refine lv_ior hx hb dX3_canGoOnWith_17 ?_
  refine va_put (D := G) (ci := 3) (v := .int (t_used ||| ((1 : Int32) <<< (x4 &&& 31)))) (ty := .int) (C := RX3) (T := TX3) (N := 4) hx hb hts inX3 tyX3 tyX3_ok nmX3 hown hK hP hD hS 0 rfl rfl 3 (by decide) hf21 (fun _ h9 => h9) rfl (by decide +kernel) rfl rfl (Nat.le_of_ble_eq_true rfl) dX3_canGoOnWith_18 (fun H locs hP hD hS => ?_)
  have hP : va_P G vwCl (w_X3_canGoOnWith_al Y h_t h_p1 B_t B_p1 (t_used ||| ((1 : Int32) <<< (x4 &&& 31))) (upd t_images (Int32.toNatClampNeg x3) x4) t_signsHere t_signsThere p1_n p1_cells) H := hP
  have hD : va_D A (w_X3_canGoOnWith_al Y h_t h_p1 B_t B_p1 (t_used ||| ((1 : Int32) <<< (x4 &&& 31))) (upd t_images (Int32.toNatClampNeg x3) x4) t_signsHere t_signsThere p1_n p1_cells) := hD
  refine lv_aload_n hx hb dX3_canGoOnWith_21 rfl (lv_at hl 0 rfl) ?_
  refine lv_aload_n hx hb dX3_canGoOnWith_22 rfl (lv_at hl 1 rfl) ?_
  refine lv_aload_n hx hb dX3_canGoOnWith_23 rfl (lv_at hl 2 rfl) ?_
  refine lv_iload_n hx hb dX3_canGoOnWith_24 rfl (lv_at hl 3 rfl) ?_
  refine lv_iconst (v := 1) hx hb dX3_canGoOnWith_25 (by decide) ?_
  refine lv_iadd hx hb dX3_canGoOnWith_26 ?_
  refine mc_iV ⟨hx, hb, hml, hown, hts⟩ hK hE hA hP hD hS (hrec H.size h_t h_p1 B_t B_p1 (t_used ||| ((1 : Int32) <<< (x4 &&& 31))) (upd t_images (Int32.toNatClampNeg x3) x4) t_signsHere t_signsThere p1_n p1_cells (x3 + (1 : Int32)) h) (cwV 3 hts gX3_canGoOnWith_X3_canGoOn rfl rfl rfl (by decide +kernel) ⟨hRcF, hRcL⟩) (fun u => (w_X3_canGoOnWith_al Y h_t h_p1 B_t B_p1 u.1 u.2 t_signsHere t_signsThere p1_n p1_cells)) [0, 1, 2, 3, 4, 5] [] [0, 1, 2, 3, 4, 5] rfl rfl rfl rfl (by decide) (fun _ => rfl) rfl 0 3 rfl rfl rfl rfl hl.1 rfl (Nat.le_of_ble_eq_true rfl) dX3_canGoOnWith_27 (fun r27 u H locs h hP hD hS => ?_)
  obtain ⟨t_used_27, t_images_27⟩ := u
  try dsimp only at h
  have hP : va_P G vwCl (w_X3_canGoOnWith_al Y h_t h_p1 B_t B_p1 t_used_27 t_images_27 t_signsHere t_signsThere p1_n p1_cells) H := hP
  have hD : va_D A (w_X3_canGoOnWith_al Y h_t h_p1 B_t B_p1 t_used_27 t_images_27 t_signsHere t_signsThere p1_n p1_cells) := hD
  refine lv_istore (lv' := [(5, .int r27), (0, .ref h_t), (1, .ref h_p1), (2, .ref h_p1), (3, .int x3), (4, .int x4)]) hx hb dX3_canGoOnWith_30 hl (by decide) rfl (fun ls hl => ?_)
  refine lv_aload_n hx hb dX3_canGoOnWith_32 rfl (lv_at hl 1 rfl) ?_
  refine lv_dup hx hb dX3_canGoOnWith_33 rfl ?_
  refine va_get (D := G) (ci := 3) (v := .int t_used_27) (C := RX3) (T := TX3) (N := 4) hx hb hts inX3 hown hK hP 0 rfl rfl 3 (by decide) hf21 (fun _ h9 => h9) rfl dX3_canGoOnWith_34 ?_
  refine lv_iconst (v := 1) hx hb dX3_canGoOnWith_37 (by decide) ?_
  refine lv_iload hx hb dX3_canGoOnWith_38 (lv_at hl 5 rfl) ?_
  refine lv_ishl hx hb dX3_canGoOnWith_40 ?_
  refine lv_iconst (v := -1) hx hb dX3_canGoOnWith_41 (by decide) ?_
  refine lv_ixor hx hb dX3_canGoOnWith_42 ?_
  refine lv_iand hx hb dX3_canGoOnWith_43 ?_
  refine va_put (D := G) (ci := 3) (v := .int (t_used_27 &&& (((1 : Int32) <<< (x4 &&& 31)) ^^^ (-1 : Int32)))) (ty := .int) (C := RX3) (T := TX3) (N := 4) hx hb hts inX3 tyX3 tyX3_ok nmX3 hown hK hP hD hS 0 rfl rfl 3 (by decide) hf21 (fun _ h9 => h9) rfl (by decide +kernel) rfl rfl (Nat.le_of_ble_eq_true rfl) dX3_canGoOnWith_44 (fun H locs hP hD hS => ?_)
  have hP : va_P G vwCl (w_X3_canGoOnWith_al Y h_t h_p1 B_t B_p1 (t_used_27 &&& (((1 : Int32) <<< (x4 &&& 31)) ^^^ (-1 : Int32))) t_images_27 t_signsHere t_signsThere p1_n p1_cells) H := hP
  have hD : va_D A (w_X3_canGoOnWith_al Y h_t h_p1 B_t B_p1 (t_used_27 &&& (((1 : Int32) <<< (x4 &&& 31)) ^^^ (-1 : Int32))) t_images_27 t_signsHere t_signsThere p1_n p1_cells) := hD
  refine lv_iload hx hb dX3_canGoOnWith_47 (lv_at hl 0 rfl) ?_
  obtain ⟨hz, h⟩ := h
  exact hret r27 (t_used_27 &&& (((1 : Int32) <<< (x4 &&& 31)) ^^^ (-1 : Int32))) t_images_27 H locs ls _ hP hD hS hz h dX3_canGoOnWith_49

set_option maxHeartbeats 4000000 in
set_option maxRecDepth 100000 in
theorem wk_X3_canGoOn {p : Program} {l : Launch} {e : Env} {R : Room} {s : State} {m : MethodId} {args : Array Value} {below : List Frame} {meth : Method} {c : Code} {Q : State → Prop} {G : va_G} {Y : Nat → ClassId} {tF : Nat} {A : Nat → Prop} (h_t : Nat) (h_p1 : Nat) (h_p2 : Nat) (B_t : Nat → Nat) (B_p1 : Nat → Nat) (B_p2 : Nat → Nat) (t_used : Int32) (t_images : Nat → Int32) (t_signsHere : Nat → Int32) (t_signsThere : Nat → Int32) (p1_n : Int32) (p1_cells : Nat → Int32) (p2_n : Int32) (p2_cells : Nat → Int32) (x3 : Int32) {rec : Int32 → (Nat → Int32) → (Nat → Int32) → (Nat → Int32) → Int32 → (Nat → Int32) → Int32 → (Nat → Int32) → Int32 → Int32 → (Int32 → Int32 → (Nat → Int32) → Prop) → Prop} {fB lB : Nat} (hRcF : fB + 1 ≤ R.frames) (hRcL : 8 + (6 + 11) + lB ≤ R.locals) (hrec : ∀ (sz : Nat) (h_t : Nat) (h_p1 : Nat) (h_p2 : Nat) (B_t : Nat → Nat) (B_p1 : Nat → Nat) (B_p2 : Nat → Nat) (t_used : Int32) (t_images : Nat → Int32) (t_signsHere : Nat → Int32) (t_signsThere : Nat → Int32) (p1_n : Int32) (p1_cells : Nat → Int32) (p2_n : Int32) (p2_cells : Nat → Int32) (x3 : Int32) (x4 : Int32) {K : Int32 → Int32 → (Nat → Int32) → Prop}, rec t_used t_images t_signsHere t_signsThere p1_n p1_cells p2_n p2_cells x3 x4 K → Met l yX3_canGoOnWith wsX3_canGoOnWith ({ frames := fB, cells := 0, slots := 0, locals := lB }) (PcM G Y tF sz (w_X3_canGoOnWith Y h_t h_p1 h_p2 B_t B_p1 B_p2 t_used t_images t_signsHere t_signsThere p1_n p1_cells p2_n p2_cells) [.ref h_t, .ref h_p1, .ref h_p2, .int x3, .int x4]) (va_Qi (fun (r : Int32) (u : Int32 × (Nat → Int32)) => K r u.1 u.2) (fun u t => BM G Y (va_A (w_X3_canGoOnWith Y h_t h_p1 h_p2 B_t B_p1 B_p2 t_used t_images t_signsHere t_signsThere p1_n p1_cells p2_n p2_cells) sz) (w_X3_canGoOnWith Y h_t h_p1 h_p2 B_t B_p1 B_p2 u.1 u.2 t_signsHere t_signsThere p1_n p1_cells p2_n p2_cells) t) (va_A (w_X3_canGoOnWith Y h_t h_p1 h_p2 B_t B_p1 B_p2 t_used t_images t_signsHere t_signsThere p1_n p1_cells p2_n p2_cells) sz)) 0 0 (va_A (w_X3_canGoOnWith Y h_t h_p1 h_p2 B_t B_p1 B_p2 t_used t_images t_signsHere t_signsThere p1_n p1_cells p2_n p2_cells) sz)) {K : Int32 → Int32 → (Nat → Int32) → Prop} (hx : p.tables.exec = Jvm.exec) (hb : c.code = cX3_canGoOn) (hml : c.maxLocals = 5) (hown : s.vm.findClass RX3 = some m.cls) (hts : ∀ w ∈ wsX3_canGoOn, w.before args s = true) (hK : va_K G vwCl (tyL Y) s) (hE : Ev A tF s) (hA : ∀ q, s.heap.size ≤ q → A q) (hRf : 2 ≤ R.frames) (hRl : 52 ≤ R.locals) (hret : ∀ (r : Int32) (t_used : Int32) (t_images : Nat → Int32) (H : Heap) (locs : List Loc) (ls : Array Slot) (pc : Nat), va_P G vwCl (w_X3_canGoOn Y h_t h_p1 h_p2 B_t B_p1 B_p2 t_used t_images t_signsHere t_signsThere p1_n p1_cells p2_n p2_cells) H → va_D A (w_X3_canGoOn Y h_t h_p1 h_p2 B_t B_p1 B_p2 t_used t_images t_signsHere t_signsThere p1_n p1_cells p2_n p2_cells) → va_S A s.heap H locs → zb r → K r t_used t_images → decode cX3_canGoOn pc = .ok (.ireturn, 1) → W p l e R s m args below meth c H locs 0 0 Q (F0 m pc ls [.int r])) (hP : va_P G vwCl (w_X3_canGoOn Y h_t h_p1 h_p2 B_t B_p1 B_p2 t_used t_images t_signsHere t_signsThere p1_n p1_cells p2_n p2_cells) s.heap) (hD : va_D A (w_X3_canGoOn Y h_t h_p1 h_p2 B_t B_p1 B_p2 t_used t_images t_signsHere t_signsThere p1_n p1_cells p2_n p2_cells)) (h : pX3_canGoOn_b rec t_used t_images t_signsHere t_signsThere p1_n p1_cells p2_n p2_cells x3 K) : W p l e R s m args below meth c s.heap [] 0 0 Q (entryFrame m ([.ref h_t, .ref h_p1, .ref h_p2, .int x3] : List Value).toArray 5) := by
  have inX3 : ∀ w ∈ u_ws RX3 TX3 4, w ∈ wsX3_canGoOn := by decide +kernel
  have inX7 : ∀ w ∈ u_ws RX7 TX7 2, w ∈ wsX3_canGoOn := by decide +kernel
  have hf21 := hts (.fieldLink RX3 21 "RackBench$Matcher" "used" "I") (by decide +kernel)
  have hl := lv_entry ([.ref h_t, .ref h_p1, .ref h_p2, .int x3]) (n := 5) (Nat.le_of_ble_eq_true rfl)
  rw [lg_entry_eq]
  generalize (lg_sl ([.ref h_t, .ref h_p1, .ref h_p2, .int x3]) ++ List.replicate (5 - (lg_sl ([.ref h_t, .ref h_p1, .ref h_p2, .int x3])).length) Slot.unset).toArray = ls at hl ⊢
  have hl : lv_has ls 5 [(0, .ref h_t), (1, .ref h_p1), (2, .ref h_p2), (3, .int x3)] := hl
  generalize hH0 : s.heap = H at hP ⊢
  have hS : va_S A s.heap H [] := by rw [← hH0]; exact va_S.rf
  clear hH0
  generalize ([] : List Loc) = locs at hS ⊢
  refine lv_iload_n hx hb dX3_canGoOn_0 rfl (lv_at hl 3 rfl) ?_
  refine lv_aload_n hx hb dX3_canGoOn_1 rfl (lv_at hl 1 rfl) ?_
  refine va_getN (D := G) (ci := 6) (v := .int p1_n) (C := RX7) (T := TX7) (N := 2) hx hb hts inX7 hown hK hP 4 rfl rfl 1 (by decide) (hE.nest args 9 _ rfl) (fun _ h9 => h9) rfl dX3_canGoOn_2 ?_
  obtain ⟨ht, hf⟩ := h
  refine lv_icmp_lt (tgt := 10) hx hb dX3_canGoOn_5 (by decide) (fun c9 => ?_) (fun c9 => ?_)
  · have h := ht c9
    refine lv_iconst (v := 0) hx hb dX3_canGoOn_10 (by decide) ?_
    refine lv_istore (lv' := [(4, .int (0 : Int32)), (0, .ref h_t), (1, .ref h_p1), (2, .ref h_p2), (3, .int x3)]) hx hb dX3_canGoOn_11 hl (by decide) rfl (fun ls hl => ?_)
    obtain ⟨I13, m13, hI13, hB13⟩ := h
    have L13 : ∀ (x3 : Int32) (I13 : Int32 → Int32 → (Nat → Int32) → Prop) (m13 : Int32 → Int32 → (Nat → Int32) → Nat), (∀ (x4 : Int32) (t_used : Int32) (t_images : Nat → Int32), I13 x4 t_used t_images → pX3_canGoOn_13 t_signsHere t_signsThere p1_n p1_cells p2_n p2_cells rec K x3 x4 t_used t_images (fun x4' t_used' t_images' => I13 x4' t_used' t_images' ∧ m13 x4' t_used' t_images' < m13 x4 t_used t_images)) → ∀ (n : Nat) (x4 : Int32) (t_used : Int32) (t_images : Nat → Int32) (H : Heap) (locs : List Loc) (ls : Array Slot), I13 x4 t_used t_images → m13 x4 t_used t_images < n → va_P G vwCl (w_X3_canGoOn Y h_t h_p1 h_p2 B_t B_p1 B_p2 t_used t_images t_signsHere t_signsThere p1_n p1_cells p2_n p2_cells) H → va_D A (w_X3_canGoOn Y h_t h_p1 h_p2 B_t B_p1 B_p2 t_used t_images t_signsHere t_signsThere p1_n p1_cells p2_n p2_cells) → va_S A s.heap H locs → lv_has ls 5 [(0, .ref h_t), (1, .ref h_p1), (2, .ref h_p2), (3, .int x3), (4, .int x4)] → W p l e R s m args below meth c H locs 0 0 Q (F0 m 13 ls []) := by
      intro x3 I13 m13 hB13 n
      induction n with
      | zero => intro x4 t_used t_images H locs ls _ hm; exact absurd hm (Nat.not_lt_zero _)
      | succ n ih =>
        intro x4 t_used t_images H locs ls hI hm hP hD hS hl
        obtain ⟨R13, h, rec13⟩ : ∃ R13 : Int32 → Int32 → (Nat → Int32) → Prop, pX3_canGoOn_13 t_signsHere t_signsThere p1_n p1_cells p2_n p2_cells rec K x3 x4 t_used t_images R13 ∧ ∀ (x4 : Int32) (t_used : Int32) (t_images : Nat → Int32) (H : Heap) (locs : List Loc) (ls : Array Slot), R13 x4 t_used t_images → va_P G vwCl (w_X3_canGoOn Y h_t h_p1 h_p2 B_t B_p1 B_p2 t_used t_images t_signsHere t_signsThere p1_n p1_cells p2_n p2_cells) H → va_D A (w_X3_canGoOn Y h_t h_p1 h_p2 B_t B_p1 B_p2 t_used t_images t_signsHere t_signsThere p1_n p1_cells p2_n p2_cells) → va_S A s.heap H locs → lv_has ls 5 [(0, .ref h_t), (1, .ref h_p1), (2, .ref h_p2), (3, .int x3), (4, .int x4)] → W p l e R s m args below meth c H locs 0 0 Q (F0 m 13 ls []) := ⟨_, hB13 x4 t_used t_images hI, fun x4 t_used t_images H locs ls hh hP hD hS hl => ih x4 t_used t_images H locs ls hh.1 (Nat.lt_of_lt_of_le hh.2 (Nat.le_of_lt_succ hm)) hP hD hS hl⟩
        refine lv_iload hx hb dX3_canGoOn_13 (lv_at hl 4 rfl) ?_
        refine lv_aload_n hx hb dX3_canGoOn_15 rfl (lv_at hl 2 rfl) ?_
        refine va_getN (D := G) (ci := 6) (v := .int p2_n) (C := RX7) (T := TX7) (N := 2) hx hb hts inX7 hown hK hP 6 rfl rfl 1 (by decide) (hE.nest args 9 _ rfl) (fun _ h9 => h9) rfl dX3_canGoOn_16 ?_
        obtain ⟨ht, hf⟩ := h
        refine lv_icmp_ge (tgt := 66) hx hb dX3_canGoOn_19 (by decide) (fun c9 => ?_) (fun c9 => ?_)
        · have h := ht c9
          refine lv_iconst (v := 0) hx hb dX3_canGoOn_66 (by decide) ?_
          obtain ⟨hz, h⟩ := h
          exact hret (0 : Int32) t_used t_images H locs ls _ hP hD hS hz h dX3_canGoOn_67
        · have h := hf c9
          refine lv_aload_n hx hb dX3_canGoOn_22 rfl (lv_at hl 0 rfl) ?_
          refine va_get (D := G) (ci := 3) (v := .int t_used) (C := RX3) (T := TX3) (N := 4) hx hb hts inX3 hown hK hP 0 rfl rfl 3 (by decide) hf21 (fun _ h9 => h9) rfl dX3_canGoOn_23 ?_
          refine lv_iload hx hb dX3_canGoOn_26 (lv_at hl 4 rfl) ?_
          refine lv_ishr hx hb dX3_canGoOn_28 ?_
          refine lv_iconst (v := 1) hx hb dX3_canGoOn_29 (by decide) ?_
          refine lv_iand hx hb dX3_canGoOn_30 ?_
          obtain ⟨ht, hf⟩ := h
          refine lv_if_ne (tgt := 60) hx hb dX3_canGoOn_31 (by decide) (fun c9 => ?_) (fun c9 => ?_)
          · have h := ht c9
            refine lv_iinc (v := (x4 + 1)) (lv' := [(4, .int (x4 + 1)), (0, .ref h_t), (1, .ref h_p1), (2, .ref h_p2), (3, .int x3)]) hx hb dX3_canGoOn_60 hl (k := 4) rfl rfl (by decide) rfl (fun ls hl => ?_)
            refine lv_goto (tgt := 13) hx hb dX3_canGoOn_63 (by decide) ?_
            exact rec13 (x4 + 1) t_used t_images H locs ls h hP hD hS (lv_sub hl [1, 2, 3, 4, 0] rfl)
          · have h := hf c9
            refine lv_aload_n hx hb dX3_canGoOn_34 rfl (lv_at hl 0 rfl) ?_
            refine lv_aload_n hx hb dX3_canGoOn_35 rfl (lv_at hl 1 rfl) ?_
            refine lv_aload_n hx hb dX3_canGoOn_36 rfl (lv_at hl 2 rfl) ?_
            refine lv_iload_n hx hb dX3_canGoOn_37 rfl (lv_at hl 3 rfl) ?_
            refine lv_iload hx hb dX3_canGoOn_38 (lv_at hl 4 rfl) ?_
            refine mc_iV ⟨hx, hb, hml, hown, hts⟩ hK hE hA hP hD hS (c_X3_fits l G Y tF H.size h_t h_p1 h_p2 B_t B_p1 B_p2 t_used t_images t_signsHere t_signsThere p1_n p1_cells p2_n p2_cells x3 x4 h) (cwV 4 hts gX3_canGoOn_X3_fits rfl rfl rfl (by decide +kernel) ⟨Nat.le_trans (by decide) hRf, Nat.le_trans (by decide) hRl⟩) (fun u => (w_X3_canGoOn Y h_t h_p1 h_p2 B_t B_p1 B_p2 t_used u t_signsHere t_signsThere p1_n p1_cells p2_n p2_cells)) [0, 1, 2, 3, 4, 5, 6, 7] [] [0, 1, 2, 3, 4, 5, 6, 7] rfl rfl rfl rfl (by decide) (fun _ => rfl) rfl 0 3 rfl rfl rfl rfl hl.1 rfl (Nat.le_of_ble_eq_true rfl) dX3_canGoOn_40 (fun r40 u H locs h hP hD hS => ?_)
            obtain ⟨t_images_40, rfl⟩ : ∃ z, z = u := ⟨_, rfl⟩
            try dsimp only at h
            have hP : va_P G vwCl (w_X3_canGoOn Y h_t h_p1 h_p2 B_t B_p1 B_p2 t_used t_images_40 t_signsHere t_signsThere p1_n p1_cells p2_n p2_cells) H := hP
            have hD : va_D A (w_X3_canGoOn Y h_t h_p1 h_p2 B_t B_p1 B_p2 t_used t_images_40 t_signsHere t_signsThere p1_n p1_cells p2_n p2_cells) := hD
            obtain ⟨ht, hf⟩ := h
            refine lv_if_eq (tgt := 60) hx hb dX3_canGoOn_43 (by decide) (fun c9 => ?_) (fun c9 => ?_)
            · have h := ht c9
              refine lv_iinc (v := (x4 + 1)) (lv' := [(4, .int (x4 + 1)), (0, .ref h_t), (1, .ref h_p1), (2, .ref h_p2), (3, .int x3)]) hx hb dX3_canGoOn_60 hl (k := 4) rfl rfl (by decide) rfl (fun ls hl => ?_)
              refine lv_goto (tgt := 13) hx hb dX3_canGoOn_63 (by decide) ?_
              exact rec13 (x4 + 1) t_used t_images_40 H locs ls h hP hD hS (lv_sub hl [1, 2, 3, 4, 0] rfl)
            · have h := hf c9
              refine lv_aload_n hx hb dX3_canGoOn_46 rfl (lv_at hl 0 rfl) ?_
              refine lv_aload_n hx hb dX3_canGoOn_47 rfl (lv_at hl 1 rfl) ?_
              refine lv_aload_n hx hb dX3_canGoOn_48 rfl (lv_at hl 2 rfl) ?_
              refine lv_iload_n hx hb dX3_canGoOn_49 rfl (lv_at hl 3 rfl) ?_
              refine lv_iload hx hb dX3_canGoOn_50 (lv_at hl 4 rfl) ?_
              refine mc_iV ⟨hx, hb, hml, hown, hts⟩ hK hE hA hP hD hS (hrec H.size h_t h_p1 h_p2 B_t B_p1 B_p2 t_used t_images_40 t_signsHere t_signsThere p1_n p1_cells p2_n p2_cells x3 x4 h) (cwV 4 hts gX3_canGoOn_X3_canGoOnWith rfl rfl rfl (by decide +kernel) ⟨hRcF, hRcL⟩) (fun u => (w_X3_canGoOn Y h_t h_p1 h_p2 B_t B_p1 B_p2 u.1 u.2 t_signsHere t_signsThere p1_n p1_cells p2_n p2_cells)) [0, 1, 2, 3, 4, 5, 6, 7] [] [0, 1, 2, 3, 4, 5, 6, 7] rfl rfl rfl rfl (by decide) (fun _ => rfl) rfl 0 3 rfl rfl rfl rfl hl.1 rfl (Nat.le_of_ble_eq_true rfl) dX3_canGoOn_52 (fun r52 u H locs h hP hD hS => ?_)
              obtain ⟨t_used_52, t_images_52⟩ := u
              try dsimp only at h
              have hP : va_P G vwCl (w_X3_canGoOn Y h_t h_p1 h_p2 B_t B_p1 B_p2 t_used_52 t_images_52 t_signsHere t_signsThere p1_n p1_cells p2_n p2_cells) H := hP
              have hD : va_D A (w_X3_canGoOn Y h_t h_p1 h_p2 B_t B_p1 B_p2 t_used_52 t_images_52 t_signsHere t_signsThere p1_n p1_cells p2_n p2_cells) := hD
              obtain ⟨ht, hf⟩ := h
              refine lv_if_eq (tgt := 60) hx hb dX3_canGoOn_55 (by decide) (fun c9 => ?_) (fun c9 => ?_)
              · have h := ht c9
                refine lv_iinc (v := (x4 + 1)) (lv' := [(4, .int (x4 + 1)), (0, .ref h_t), (1, .ref h_p1), (2, .ref h_p2), (3, .int x3)]) hx hb dX3_canGoOn_60 hl (k := 4) rfl rfl (by decide) rfl (fun ls hl => ?_)
                refine lv_goto (tgt := 13) hx hb dX3_canGoOn_63 (by decide) ?_
                exact rec13 (x4 + 1) t_used_52 t_images_52 H locs ls h hP hD hS (lv_sub hl [1, 2, 3, 4, 0] rfl)
              · have h := hf c9
                refine lv_iconst (v := 1) hx hb dX3_canGoOn_58 (by decide) ?_
                obtain ⟨hz, h⟩ := h
                exact hret (1 : Int32) t_used_52 t_images_52 H locs ls _ hP hD hS hz h dX3_canGoOn_59
    exact L13 x3 I13 m13 hB13 _ (0 : Int32) t_used t_images H locs ls hI13 (Nat.lt_succ_self _) hP hD hS (lv_sub hl [1, 2, 3, 4, 0] rfl)
  · have h := hf c9
    refine lv_iconst (v := 1) hx hb dX3_canGoOn_8 (by decide) ?_
    obtain ⟨hz, h⟩ := h
    exact hret (1 : Int32) t_used t_images H locs ls _ hP hD hS hz h dX3_canGoOn_9

set_option maxHeartbeats 4000000 in
set_option maxRecDepth 100000 in
theorem cs_X3_canGoOnWith (l : Launch) (d : Nat) (G : va_G) (Y : Nat → ClassId) (tF sz : Nat) (h_t : Nat) (h_p1 : Nat) (h_p2 : Nat) (B_t : Nat → Nat) (B_p1 : Nat → Nat) (B_p2 : Nat → Nat) (t_used : Int32) (t_images : Nat → Int32) (t_signsHere : Nat → Int32) (t_signsThere : Nat → Int32) (p1_n : Int32) (p1_cells : Nat → Int32) (p2_n : Int32) (p2_cells : Nat → Int32) (x3 : Int32) (x4 : Int32) {K : Int32 → Int32 → (Nat → Int32) → Prop} (hrec : ∀ (sz : Nat) (h_t : Nat) (h_p1 : Nat) (h_p2 : Nat) (B_t : Nat → Nat) (B_p1 : Nat → Nat) (B_p2 : Nat → Nat) (t_used : Int32) (t_images : Nat → Int32) (t_signsHere : Nat → Int32) (t_signsThere : Nat → Int32) (p1_n : Int32) (p1_cells : Nat → Int32) (p2_n : Int32) (p2_cells : Nat → Int32) (x3 : Int32) {K : Int32 → Int32 → (Nat → Int32) → Prop}, pX3_canGoOn d t_used t_images t_signsHere t_signsThere p1_n p1_cells p2_n p2_cells x3 K → Met l yX3_canGoOn wsX3_canGoOn ({ frames := (2 + 2 * d), cells := 0, slots := 0, locals := (52 + d * 49) }) (PcM G Y tF sz (w_X3_canGoOn Y h_t h_p1 h_p2 B_t B_p1 B_p2 t_used t_images t_signsHere t_signsThere p1_n p1_cells p2_n p2_cells) [.ref h_t, .ref h_p1, .ref h_p2, .int x3]) (va_Qi (fun (r : Int32) (u : Int32 × (Nat → Int32)) => K r u.1 u.2) (fun u t => BM G Y (va_A (w_X3_canGoOn Y h_t h_p1 h_p2 B_t B_p1 B_p2 t_used t_images t_signsHere t_signsThere p1_n p1_cells p2_n p2_cells) sz) (w_X3_canGoOn Y h_t h_p1 h_p2 B_t B_p1 B_p2 u.1 u.2 t_signsHere t_signsThere p1_n p1_cells p2_n p2_cells) t) (va_A (w_X3_canGoOn Y h_t h_p1 h_p2 B_t B_p1 B_p2 t_used t_images t_signsHere t_signsThere p1_n p1_cells p2_n p2_cells) sz)) 0 0 (va_A (w_X3_canGoOn Y h_t h_p1 h_p2 B_t B_p1 B_p2 t_used t_images t_signsHere t_signsThere p1_n p1_cells p2_n p2_cells) sz)) (h : pX3_canGoOnWith d t_used t_images t_signsHere t_signsThere p1_n p1_cells p2_n p2_cells x3 x4 K) : Met l yX3_canGoOnWith wsX3_canGoOnWith ({ frames := (2 + 2 * d + 1), cells := 0, slots := 0, locals := (52 + d * 49 + 24) }) (PcM G Y tF sz (w_X3_canGoOnWith Y h_t h_p1 h_p2 B_t B_p1 B_p2 t_used t_images t_signsHere t_signsThere p1_n p1_cells p2_n p2_cells) [.ref h_t, .ref h_p1, .ref h_p2, .int x3, .int x4]) (va_Qi (fun (r : Int32) (u : Int32 × (Nat → Int32)) => K r u.1 u.2) (fun u t => BM G Y (va_A (w_X3_canGoOnWith Y h_t h_p1 h_p2 B_t B_p1 B_p2 t_used t_images t_signsHere t_signsThere p1_n p1_cells p2_n p2_cells) sz) (w_X3_canGoOnWith Y h_t h_p1 h_p2 B_t B_p1 B_p2 u.1 u.2 t_signsHere t_signsThere p1_n p1_cells p2_n p2_cells) t) (va_A (w_X3_canGoOnWith Y h_t h_p1 h_p2 B_t B_p1 B_p2 t_used t_images t_signsHere t_signsThere p1_n p1_cells p2_n p2_cells) sz)) 0 0 (va_A (w_X3_canGoOnWith Y h_t h_p1 h_p2 B_t B_p1 B_p2 t_used t_images t_signsHere t_signsThere p1_n p1_cells p2_n p2_cells) sz) := by
  refine Met.ofW (cc := cX3_canGoOnWith) (maxL := 6) (ret := (some .boolean)) (by decide +kernel) rfl ?_
  intro p e s m args below meth c s₁ B hml hv
  obtain ⟨rfl, hsz, hP, hK, hD0, hE⟩ := hv
  have hts := atoms_spec (ws := wsX3_canGoOnWith) B.pre
  have hown : s.vm.findClass RX3 = some m.cls := findClass_of_methodNamed B.named
  have hlocks := B.notSynchronized
  subst hsz
  have hD := hD0.self (sz := s.heap.size)
  exact wk_X3_canGoOnWith h_t h_p1 h_p2 B_t B_p1 B_p2 t_used t_images t_signsHere t_signsThere p1_n p1_cells p2_n p2_cells x3 x4 (rec := pX3_canGoOn d) (fB := (2 + 2 * d)) (lB := (52 + d * 49)) (by show _ ≤ _; simp only [headSpec]; omega) (by show _ ≤ _; simp only [headSpec]; omega) (fun sz h_t h_p1 h_p2 B_t B_p1 B_p2 t_used t_images t_signsHere t_signsThere p1_n p1_cells p2_n p2_cells x3 _ hh => hrec sz h_t h_p1 h_p2 B_t B_p1 B_p2 t_used t_images t_signsHere t_signsThere p1_n p1_cells p2_n p2_cells x3 hh) B.exec B.bytes hml hown hts hK hE (fun q h => Or.inr h) (by show _ ≤ _; simp only [headSpec]; omega) (by show _ ≤ _; simp only [headSpec]; omega) (fun r t_used t_images H locs ls pc hP hD hS hz hk hd => W.zret (v := r) B.exec B.bytes B.returns hz.n (fun t ht hW => ⟨⟨r, (t_used, t_images), rfl, hk, by rw [ht]; exact hP, va_K.moved hW.alike hK, hD⟩, hS.F ht⟩) hS.2.2 hd) hP hD h

set_option maxHeartbeats 4000000 in
set_option maxRecDepth 100000 in
theorem cs_X3_canGoOn (l : Launch) (d : Nat) (G : va_G) (Y : Nat → ClassId) (tF sz : Nat) (h_t : Nat) (h_p1 : Nat) (h_p2 : Nat) (B_t : Nat → Nat) (B_p1 : Nat → Nat) (B_p2 : Nat → Nat) (t_used : Int32) (t_images : Nat → Int32) (t_signsHere : Nat → Int32) (t_signsThere : Nat → Int32) (p1_n : Int32) (p1_cells : Nat → Int32) (p2_n : Int32) (p2_cells : Nat → Int32) (x3 : Int32) {K : Int32 → Int32 → (Nat → Int32) → Prop} (hrec : ∀ (sz : Nat) (h_t : Nat) (h_p1 : Nat) (h_p2 : Nat) (B_t : Nat → Nat) (B_p1 : Nat → Nat) (B_p2 : Nat → Nat) (t_used : Int32) (t_images : Nat → Int32) (t_signsHere : Nat → Int32) (t_signsThere : Nat → Int32) (p1_n : Int32) (p1_cells : Nat → Int32) (p2_n : Int32) (p2_cells : Nat → Int32) (x3 : Int32) (x4 : Int32) {K : Int32 → Int32 → (Nat → Int32) → Prop}, pX3_canGoOnWith d t_used t_images t_signsHere t_signsThere p1_n p1_cells p2_n p2_cells x3 x4 K → Met l yX3_canGoOnWith wsX3_canGoOnWith ({ frames := (2 + 2 * d + 1), cells := 0, slots := 0, locals := (52 + d * 49 + 24) }) (PcM G Y tF sz (w_X3_canGoOnWith Y h_t h_p1 h_p2 B_t B_p1 B_p2 t_used t_images t_signsHere t_signsThere p1_n p1_cells p2_n p2_cells) [.ref h_t, .ref h_p1, .ref h_p2, .int x3, .int x4]) (va_Qi (fun (r : Int32) (u : Int32 × (Nat → Int32)) => K r u.1 u.2) (fun u t => BM G Y (va_A (w_X3_canGoOnWith Y h_t h_p1 h_p2 B_t B_p1 B_p2 t_used t_images t_signsHere t_signsThere p1_n p1_cells p2_n p2_cells) sz) (w_X3_canGoOnWith Y h_t h_p1 h_p2 B_t B_p1 B_p2 u.1 u.2 t_signsHere t_signsThere p1_n p1_cells p2_n p2_cells) t) (va_A (w_X3_canGoOnWith Y h_t h_p1 h_p2 B_t B_p1 B_p2 t_used t_images t_signsHere t_signsThere p1_n p1_cells p2_n p2_cells) sz)) 0 0 (va_A (w_X3_canGoOnWith Y h_t h_p1 h_p2 B_t B_p1 B_p2 t_used t_images t_signsHere t_signsThere p1_n p1_cells p2_n p2_cells) sz)) (h : pX3_canGoOn (d + 1) t_used t_images t_signsHere t_signsThere p1_n p1_cells p2_n p2_cells x3 K) : Met l yX3_canGoOn wsX3_canGoOn ({ frames := (2 + 2 * (d + 1)), cells := 0, slots := 0, locals := (52 + (d + 1) * 49) }) (PcM G Y tF sz (w_X3_canGoOn Y h_t h_p1 h_p2 B_t B_p1 B_p2 t_used t_images t_signsHere t_signsThere p1_n p1_cells p2_n p2_cells) [.ref h_t, .ref h_p1, .ref h_p2, .int x3]) (va_Qi (fun (r : Int32) (u : Int32 × (Nat → Int32)) => K r u.1 u.2) (fun u t => BM G Y (va_A (w_X3_canGoOn Y h_t h_p1 h_p2 B_t B_p1 B_p2 t_used t_images t_signsHere t_signsThere p1_n p1_cells p2_n p2_cells) sz) (w_X3_canGoOn Y h_t h_p1 h_p2 B_t B_p1 B_p2 u.1 u.2 t_signsHere t_signsThere p1_n p1_cells p2_n p2_cells) t) (va_A (w_X3_canGoOn Y h_t h_p1 h_p2 B_t B_p1 B_p2 t_used t_images t_signsHere t_signsThere p1_n p1_cells p2_n p2_cells) sz)) 0 0 (va_A (w_X3_canGoOn Y h_t h_p1 h_p2 B_t B_p1 B_p2 t_used t_images t_signsHere t_signsThere p1_n p1_cells p2_n p2_cells) sz) := by
  refine Met.ofW (cc := cX3_canGoOn) (maxL := 5) (ret := (some .boolean)) (by decide +kernel) rfl ?_
  intro p e s m args below meth c s₁ B hml hv
  obtain ⟨rfl, hsz, hP, hK, hD0, hE⟩ := hv
  have hts := atoms_spec (ws := wsX3_canGoOn) B.pre
  have hown : s.vm.findClass RX3 = some m.cls := findClass_of_methodNamed B.named
  have hlocks := B.notSynchronized
  subst hsz
  have hD := hD0.self (sz := s.heap.size)
  exact wk_X3_canGoOn h_t h_p1 h_p2 B_t B_p1 B_p2 t_used t_images t_signsHere t_signsThere p1_n p1_cells p2_n p2_cells x3 (rec := pX3_canGoOnWith d) (fB := (2 + 2 * d + 1)) (lB := (52 + d * 49 + 24)) (by show _ ≤ _; simp only [headSpec]; omega) (by show _ ≤ _; simp only [headSpec]; omega) (fun sz h_t h_p1 h_p2 B_t B_p1 B_p2 t_used t_images t_signsHere t_signsThere p1_n p1_cells p2_n p2_cells x3 x4 _ hh => hrec sz h_t h_p1 h_p2 B_t B_p1 B_p2 t_used t_images t_signsHere t_signsThere p1_n p1_cells p2_n p2_cells x3 x4 hh) B.exec B.bytes hml hown hts hK hE (fun q h => Or.inr h) (by show _ ≤ _; simp only [headSpec]; omega) (by show _ ≤ _; simp only [headSpec]; omega) (fun r t_used t_images H locs ls pc hP hD hS hz hk hd => W.zret (v := r) B.exec B.bytes B.returns hz.n (fun t ht hW => ⟨⟨r, (t_used, t_images), rfl, hk, by rw [ht]; exact hP, va_K.moved hW.alike hK, hD⟩, hS.F ht⟩) hS.2.2 hd) hP hD h

theorem c_X3_canGoOn (d : Nat) (l : Launch) (G : va_G) (Y : Nat → ClassId) (tF sz : Nat) (h_t : Nat) (h_p1 : Nat) (h_p2 : Nat) (B_t : Nat → Nat) (B_p1 : Nat → Nat) (B_p2 : Nat → Nat) (t_used : Int32) (t_images : Nat → Int32) (t_signsHere : Nat → Int32) (t_signsThere : Nat → Int32) (p1_n : Int32) (p1_cells : Nat → Int32) (p2_n : Int32) (p2_cells : Nat → Int32) (x3 : Int32) {K : Int32 → Int32 → (Nat → Int32) → Prop} (h : pX3_canGoOn d t_used t_images t_signsHere t_signsThere p1_n p1_cells p2_n p2_cells x3 K) : Met l yX3_canGoOn wsX3_canGoOn ({ frames := (2 + 2 * d), cells := 0, slots := 0, locals := (52 + d * 49) }) (PcM G Y tF sz (w_X3_canGoOn Y h_t h_p1 h_p2 B_t B_p1 B_p2 t_used t_images t_signsHere t_signsThere p1_n p1_cells p2_n p2_cells) [.ref h_t, .ref h_p1, .ref h_p2, .int x3]) (va_Qi (fun (r : Int32) (u : Int32 × (Nat → Int32)) => K r u.1 u.2) (fun u t => BM G Y (va_A (w_X3_canGoOn Y h_t h_p1 h_p2 B_t B_p1 B_p2 t_used t_images t_signsHere t_signsThere p1_n p1_cells p2_n p2_cells) sz) (w_X3_canGoOn Y h_t h_p1 h_p2 B_t B_p1 B_p2 u.1 u.2 t_signsHere t_signsThere p1_n p1_cells p2_n p2_cells) t) (va_A (w_X3_canGoOn Y h_t h_p1 h_p2 B_t B_p1 B_p2 t_used t_images t_signsHere t_signsThere p1_n p1_cells p2_n p2_cells) sz)) 0 0 (va_A (w_X3_canGoOn Y h_t h_p1 h_p2 B_t B_p1 B_p2 t_used t_images t_signsHere t_signsThere p1_n p1_cells p2_n p2_cells) sz) := by
  induction d generalizing sz h_t h_p1 h_p2 B_t B_p1 B_p2 t_used t_images t_signsHere t_signsThere p1_n p1_cells p2_n p2_cells x3 K with
  | zero => exact h.elim
  | succ d ih => exact cs_X3_canGoOn l d G Y tF sz h_t h_p1 h_p2 B_t B_p1 B_p2 t_used t_images t_signsHere t_signsThere p1_n p1_cells p2_n p2_cells x3 (fun sz h_t h_p1 h_p2 B_t B_p1 B_p2 t_used t_images t_signsHere t_signsThere p1_n p1_cells p2_n p2_cells x3 x4 _ hh => cs_X3_canGoOnWith l d G Y tF sz h_t h_p1 h_p2 B_t B_p1 B_p2 t_used t_images t_signsHere t_signsThere p1_n p1_cells p2_n p2_cells x3 x4 (fun sz h_t h_p1 h_p2 B_t B_p1 B_p2 t_used t_images t_signsHere t_signsThere p1_n p1_cells p2_n p2_cells x3 _ hh => ih sz h_t h_p1 h_p2 B_t B_p1 B_p2 t_used t_images t_signsHere t_signsThere p1_n p1_cells p2_n p2_cells x3 hh) hh) h

theorem c_X3_canGoOnWith (d : Nat) (l : Launch) (G : va_G) (Y : Nat → ClassId) (tF sz : Nat) (h_t : Nat) (h_p1 : Nat) (h_p2 : Nat) (B_t : Nat → Nat) (B_p1 : Nat → Nat) (B_p2 : Nat → Nat) (t_used : Int32) (t_images : Nat → Int32) (t_signsHere : Nat → Int32) (t_signsThere : Nat → Int32) (p1_n : Int32) (p1_cells : Nat → Int32) (p2_n : Int32) (p2_cells : Nat → Int32) (x3 : Int32) (x4 : Int32) {K : Int32 → Int32 → (Nat → Int32) → Prop} (h : pX3_canGoOnWith d t_used t_images t_signsHere t_signsThere p1_n p1_cells p2_n p2_cells x3 x4 K) : Met l yX3_canGoOnWith wsX3_canGoOnWith ({ frames := (2 + 2 * d + 1), cells := 0, slots := 0, locals := (52 + d * 49 + 24) }) (PcM G Y tF sz (w_X3_canGoOnWith Y h_t h_p1 h_p2 B_t B_p1 B_p2 t_used t_images t_signsHere t_signsThere p1_n p1_cells p2_n p2_cells) [.ref h_t, .ref h_p1, .ref h_p2, .int x3, .int x4]) (va_Qi (fun (r : Int32) (u : Int32 × (Nat → Int32)) => K r u.1 u.2) (fun u t => BM G Y (va_A (w_X3_canGoOnWith Y h_t h_p1 h_p2 B_t B_p1 B_p2 t_used t_images t_signsHere t_signsThere p1_n p1_cells p2_n p2_cells) sz) (w_X3_canGoOnWith Y h_t h_p1 h_p2 B_t B_p1 B_p2 u.1 u.2 t_signsHere t_signsThere p1_n p1_cells p2_n p2_cells) t) (va_A (w_X3_canGoOnWith Y h_t h_p1 h_p2 B_t B_p1 B_p2 t_used t_images t_signsHere t_signsThere p1_n p1_cells p2_n p2_cells) sz)) 0 0 (va_A (w_X3_canGoOnWith Y h_t h_p1 h_p2 B_t B_p1 B_p2 t_used t_images t_signsHere t_signsThere p1_n p1_cells p2_n p2_cells) sz) :=
  cs_X3_canGoOnWith l d G Y tF sz h_t h_p1 h_p2 B_t B_p1 B_p2 t_used t_images t_signsHere t_signsThere p1_n p1_cells p2_n p2_cells x3 x4 (fun sz h_t h_p1 h_p2 B_t B_p1 B_p2 t_used t_images t_signsHere t_signsThere p1_n p1_cells p2_n p2_cells x3 _ hh => c_X3_canGoOn d l G Y tF sz h_t h_p1 h_p2 B_t B_p1 B_p2 t_used t_images t_signsHere t_signsThere p1_n p1_cells p2_n p2_cells x3 hh) h

set_option maxHeartbeats 4000000 in
set_option maxRecDepth 100000 in
theorem wk_X3_canGoOn_al {p : Program} {l : Launch} {e : Env} {R : Room} {s : State} {m : MethodId} {args : Array Value} {below : List Frame} {meth : Method} {c : Code} {Q : State → Prop} {G : va_G} {Y : Nat → ClassId} {tF : Nat} {A : Nat → Prop} (h_t : Nat) (h_p1 : Nat) (B_t : Nat → Nat) (B_p1 : Nat → Nat) (t_used : Int32) (t_images : Nat → Int32) (t_signsHere : Nat → Int32) (t_signsThere : Nat → Int32) (p1_n : Int32) (p1_cells : Nat → Int32) (x3 : Int32) {rec : Int32 → (Nat → Int32) → (Nat → Int32) → (Nat → Int32) → Int32 → (Nat → Int32) → Int32 → (Nat → Int32) → Int32 → Int32 → (Int32 → Int32 → (Nat → Int32) → Prop) → Prop} {fB lB : Nat} (hRcF : fB + 1 ≤ R.frames) (hRcL : 8 + (6 + 11) + lB ≤ R.locals) (hrec : ∀ (sz : Nat) (h_t : Nat) (h_p1 : Nat) (B_t : Nat → Nat) (B_p1 : Nat → Nat) (t_used : Int32) (t_images : Nat → Int32) (t_signsHere : Nat → Int32) (t_signsThere : Nat → Int32) (p1_n : Int32) (p1_cells : Nat → Int32) (x3 : Int32) (x4 : Int32) {K : Int32 → Int32 → (Nat → Int32) → Prop}, rec t_used t_images t_signsHere t_signsThere p1_n p1_cells p1_n p1_cells x3 x4 K → Met l yX3_canGoOnWith wsX3_canGoOnWith ({ frames := fB, cells := 0, slots := 0, locals := lB }) (PcM G Y tF sz (w_X3_canGoOnWith_al Y h_t h_p1 B_t B_p1 t_used t_images t_signsHere t_signsThere p1_n p1_cells) [.ref h_t, .ref h_p1, .ref h_p1, .int x3, .int x4]) (va_Qi (fun (r : Int32) (u : Int32 × (Nat → Int32)) => K r u.1 u.2) (fun u t => BM G Y (va_A (w_X3_canGoOnWith_al Y h_t h_p1 B_t B_p1 t_used t_images t_signsHere t_signsThere p1_n p1_cells) sz) (w_X3_canGoOnWith_al Y h_t h_p1 B_t B_p1 u.1 u.2 t_signsHere t_signsThere p1_n p1_cells) t) (va_A (w_X3_canGoOnWith_al Y h_t h_p1 B_t B_p1 t_used t_images t_signsHere t_signsThere p1_n p1_cells) sz)) 0 0 (va_A (w_X3_canGoOnWith_al Y h_t h_p1 B_t B_p1 t_used t_images t_signsHere t_signsThere p1_n p1_cells) sz)) {K : Int32 → Int32 → (Nat → Int32) → Prop} (hx : p.tables.exec = Jvm.exec) (hb : c.code = cX3_canGoOn) (hml : c.maxLocals = 5) (hown : s.vm.findClass RX3 = some m.cls) (hts : ∀ w ∈ wsX3_canGoOn, w.before args s = true) (hK : va_K G vwCl (tyL Y) s) (hE : Ev A tF s) (hA : ∀ q, s.heap.size ≤ q → A q) (hRf : 2 ≤ R.frames) (hRl : 52 ≤ R.locals) (hret : ∀ (r : Int32) (t_used : Int32) (t_images : Nat → Int32) (H : Heap) (locs : List Loc) (ls : Array Slot) (pc : Nat), va_P G vwCl (w_X3_canGoOn_al Y h_t h_p1 B_t B_p1 t_used t_images t_signsHere t_signsThere p1_n p1_cells) H → va_D A (w_X3_canGoOn_al Y h_t h_p1 B_t B_p1 t_used t_images t_signsHere t_signsThere p1_n p1_cells) → va_S A s.heap H locs → zb r → K r t_used t_images → decode cX3_canGoOn pc = .ok (.ireturn, 1) → W p l e R s m args below meth c H locs 0 0 Q (F0 m pc ls [.int r])) (hP : va_P G vwCl (w_X3_canGoOn_al Y h_t h_p1 B_t B_p1 t_used t_images t_signsHere t_signsThere p1_n p1_cells) s.heap) (hD : va_D A (w_X3_canGoOn_al Y h_t h_p1 B_t B_p1 t_used t_images t_signsHere t_signsThere p1_n p1_cells)) (h : pX3_canGoOn_b rec t_used t_images t_signsHere t_signsThere p1_n p1_cells p1_n p1_cells x3 K) : W p l e R s m args below meth c s.heap [] 0 0 Q (entryFrame m ([.ref h_t, .ref h_p1, .ref h_p1, .int x3] : List Value).toArray 5) := by
  have inX3 : ∀ w ∈ u_ws RX3 TX3 4, w ∈ wsX3_canGoOn := by decide +kernel
  have inX7 : ∀ w ∈ u_ws RX7 TX7 2, w ∈ wsX3_canGoOn := by decide +kernel
  have hf21 := hts (.fieldLink RX3 21 "RackBench$Matcher" "used" "I") (by decide +kernel)
  have hl := lv_entry ([.ref h_t, .ref h_p1, .ref h_p1, .int x3]) (n := 5) (Nat.le_of_ble_eq_true rfl)
  rw [lg_entry_eq]
  generalize (lg_sl ([.ref h_t, .ref h_p1, .ref h_p1, .int x3]) ++ List.replicate (5 - (lg_sl ([.ref h_t, .ref h_p1, .ref h_p1, .int x3])).length) Slot.unset).toArray = ls at hl ⊢
  have hl : lv_has ls 5 [(0, .ref h_t), (1, .ref h_p1), (2, .ref h_p1), (3, .int x3)] := hl
  generalize hH0 : s.heap = H at hP ⊢
  have hS : va_S A s.heap H [] := by rw [← hH0]; exact va_S.rf
  clear hH0
  generalize ([] : List Loc) = locs at hS ⊢
  refine lv_iload_n hx hb dX3_canGoOn_0 rfl (lv_at hl 3 rfl) ?_
  refine lv_aload_n hx hb dX3_canGoOn_1 rfl (lv_at hl 1 rfl) ?_
  refine va_getN (D := G) (ci := 6) (v := .int p1_n) (C := RX7) (T := TX7) (N := 2) hx hb hts inX7 hown hK hP 4 rfl rfl 1 (by decide) (hE.nest args 9 _ rfl) (fun _ h9 => h9) rfl dX3_canGoOn_2 ?_
  obtain ⟨ht, hf⟩ := h
  refine lv_icmp_lt (tgt := 10) hx hb dX3_canGoOn_5 (by decide) (fun c9 => ?_) (fun c9 => ?_)
  · have h := ht c9
    refine lv_iconst (v := 0) hx hb dX3_canGoOn_10 (by decide) ?_
    refine lv_istore (lv' := [(4, .int (0 : Int32)), (0, .ref h_t), (1, .ref h_p1), (2, .ref h_p1), (3, .int x3)]) hx hb dX3_canGoOn_11 hl (by decide) rfl (fun ls hl => ?_)
    obtain ⟨I13, m13, hI13, hB13⟩ := h
    have L13 : ∀ (x3 : Int32) (I13 : Int32 → Int32 → (Nat → Int32) → Prop) (m13 : Int32 → Int32 → (Nat → Int32) → Nat), (∀ (x4 : Int32) (t_used : Int32) (t_images : Nat → Int32), I13 x4 t_used t_images → pX3_canGoOn_13 t_signsHere t_signsThere p1_n p1_cells p1_n p1_cells rec K x3 x4 t_used t_images (fun x4' t_used' t_images' => I13 x4' t_used' t_images' ∧ m13 x4' t_used' t_images' < m13 x4 t_used t_images)) → ∀ (n : Nat) (x4 : Int32) (t_used : Int32) (t_images : Nat → Int32) (H : Heap) (locs : List Loc) (ls : Array Slot), I13 x4 t_used t_images → m13 x4 t_used t_images < n → va_P G vwCl (w_X3_canGoOn_al Y h_t h_p1 B_t B_p1 t_used t_images t_signsHere t_signsThere p1_n p1_cells) H → va_D A (w_X3_canGoOn_al Y h_t h_p1 B_t B_p1 t_used t_images t_signsHere t_signsThere p1_n p1_cells) → va_S A s.heap H locs → lv_has ls 5 [(0, .ref h_t), (1, .ref h_p1), (2, .ref h_p1), (3, .int x3), (4, .int x4)] → W p l e R s m args below meth c H locs 0 0 Q (F0 m 13 ls []) := by
      intro x3 I13 m13 hB13 n
      induction n with
      | zero => intro x4 t_used t_images H locs ls _ hm; exact absurd hm (Nat.not_lt_zero _)
      | succ n ih =>
        intro x4 t_used t_images H locs ls hI hm hP hD hS hl
        obtain ⟨R13, h, rec13⟩ : ∃ R13 : Int32 → Int32 → (Nat → Int32) → Prop, pX3_canGoOn_13 t_signsHere t_signsThere p1_n p1_cells p1_n p1_cells rec K x3 x4 t_used t_images R13 ∧ ∀ (x4 : Int32) (t_used : Int32) (t_images : Nat → Int32) (H : Heap) (locs : List Loc) (ls : Array Slot), R13 x4 t_used t_images → va_P G vwCl (w_X3_canGoOn_al Y h_t h_p1 B_t B_p1 t_used t_images t_signsHere t_signsThere p1_n p1_cells) H → va_D A (w_X3_canGoOn_al Y h_t h_p1 B_t B_p1 t_used t_images t_signsHere t_signsThere p1_n p1_cells) → va_S A s.heap H locs → lv_has ls 5 [(0, .ref h_t), (1, .ref h_p1), (2, .ref h_p1), (3, .int x3), (4, .int x4)] → W p l e R s m args below meth c H locs 0 0 Q (F0 m 13 ls []) := ⟨_, hB13 x4 t_used t_images hI, fun x4 t_used t_images H locs ls hh hP hD hS hl => ih x4 t_used t_images H locs ls hh.1 (Nat.lt_of_lt_of_le hh.2 (Nat.le_of_lt_succ hm)) hP hD hS hl⟩
        refine lv_iload hx hb dX3_canGoOn_13 (lv_at hl 4 rfl) ?_
        refine lv_aload_n hx hb dX3_canGoOn_15 rfl (lv_at hl 2 rfl) ?_
        refine va_getN (D := G) (ci := 6) (v := .int p1_n) (C := RX7) (T := TX7) (N := 2) hx hb hts inX7 hown hK hP 4 rfl rfl 1 (by decide) (hE.nest args 9 _ rfl) (fun _ h9 => h9) rfl dX3_canGoOn_16 ?_
        obtain ⟨ht, hf⟩ := h
        refine lv_icmp_ge (tgt := 66) hx hb dX3_canGoOn_19 (by decide) (fun c9 => ?_) (fun c9 => ?_)
        · have h := ht c9
          refine lv_iconst (v := 0) hx hb dX3_canGoOn_66 (by decide) ?_
          obtain ⟨hz, h⟩ := h
          exact hret (0 : Int32) t_used t_images H locs ls _ hP hD hS hz h dX3_canGoOn_67
        · have h := hf c9
          refine lv_aload_n hx hb dX3_canGoOn_22 rfl (lv_at hl 0 rfl) ?_
          refine va_get (D := G) (ci := 3) (v := .int t_used) (C := RX3) (T := TX3) (N := 4) hx hb hts inX3 hown hK hP 0 rfl rfl 3 (by decide) hf21 (fun _ h9 => h9) rfl dX3_canGoOn_23 ?_
          refine lv_iload hx hb dX3_canGoOn_26 (lv_at hl 4 rfl) ?_
          refine lv_ishr hx hb dX3_canGoOn_28 ?_
          refine lv_iconst (v := 1) hx hb dX3_canGoOn_29 (by decide) ?_
          refine lv_iand hx hb dX3_canGoOn_30 ?_
          obtain ⟨ht, hf⟩ := h
          refine lv_if_ne (tgt := 60) hx hb dX3_canGoOn_31 (by decide) (fun c9 => ?_) (fun c9 => ?_)
          · have h := ht c9
            refine lv_iinc (v := (x4 + 1)) (lv' := [(4, .int (x4 + 1)), (0, .ref h_t), (1, .ref h_p1), (2, .ref h_p1), (3, .int x3)]) hx hb dX3_canGoOn_60 hl (k := 4) rfl rfl (by decide) rfl (fun ls hl => ?_)
            refine lv_goto (tgt := 13) hx hb dX3_canGoOn_63 (by decide) ?_
            exact rec13 (x4 + 1) t_used t_images H locs ls h hP hD hS (lv_sub hl [1, 2, 3, 4, 0] rfl)
          · have h := hf c9
            refine lv_aload_n hx hb dX3_canGoOn_34 rfl (lv_at hl 0 rfl) ?_
            refine lv_aload_n hx hb dX3_canGoOn_35 rfl (lv_at hl 1 rfl) ?_
            refine lv_aload_n hx hb dX3_canGoOn_36 rfl (lv_at hl 2 rfl) ?_
            refine lv_iload_n hx hb dX3_canGoOn_37 rfl (lv_at hl 3 rfl) ?_
            refine lv_iload hx hb dX3_canGoOn_38 (lv_at hl 4 rfl) ?_
            refine mc_iV ⟨hx, hb, hml, hown, hts⟩ hK hE hA hP hD hS (c_X3_fits_al l G Y tF H.size h_t h_p1 B_t B_p1 t_used t_images t_signsHere t_signsThere p1_n p1_cells x3 x4 h) (cwV 4 hts gX3_canGoOn_X3_fits rfl rfl rfl (by decide +kernel) ⟨Nat.le_trans (by decide) hRf, Nat.le_trans (by decide) hRl⟩) (fun u => (w_X3_canGoOn_al Y h_t h_p1 B_t B_p1 t_used u t_signsHere t_signsThere p1_n p1_cells)) [0, 1, 2, 3, 4, 5] [] [0, 1, 2, 3, 4, 5] rfl rfl rfl rfl (by decide) (fun _ => rfl) rfl 0 3 rfl rfl rfl rfl hl.1 rfl (Nat.le_of_ble_eq_true rfl) dX3_canGoOn_40 (fun r40 u H locs h hP hD hS => ?_)
            obtain ⟨t_images_40, rfl⟩ : ∃ z, z = u := ⟨_, rfl⟩
            try dsimp only at h
            have hP : va_P G vwCl (w_X3_canGoOn_al Y h_t h_p1 B_t B_p1 t_used t_images_40 t_signsHere t_signsThere p1_n p1_cells) H := hP
            have hD : va_D A (w_X3_canGoOn_al Y h_t h_p1 B_t B_p1 t_used t_images_40 t_signsHere t_signsThere p1_n p1_cells) := hD
            obtain ⟨ht, hf⟩ := h
            refine lv_if_eq (tgt := 60) hx hb dX3_canGoOn_43 (by decide) (fun c9 => ?_) (fun c9 => ?_)
            · have h := ht c9
              refine lv_iinc (v := (x4 + 1)) (lv' := [(4, .int (x4 + 1)), (0, .ref h_t), (1, .ref h_p1), (2, .ref h_p1), (3, .int x3)]) hx hb dX3_canGoOn_60 hl (k := 4) rfl rfl (by decide) rfl (fun ls hl => ?_)
              refine lv_goto (tgt := 13) hx hb dX3_canGoOn_63 (by decide) ?_
              exact rec13 (x4 + 1) t_used t_images_40 H locs ls h hP hD hS (lv_sub hl [1, 2, 3, 4, 0] rfl)
            · have h := hf c9
              refine lv_aload_n hx hb dX3_canGoOn_46 rfl (lv_at hl 0 rfl) ?_
              refine lv_aload_n hx hb dX3_canGoOn_47 rfl (lv_at hl 1 rfl) ?_
              refine lv_aload_n hx hb dX3_canGoOn_48 rfl (lv_at hl 2 rfl) ?_
              refine lv_iload_n hx hb dX3_canGoOn_49 rfl (lv_at hl 3 rfl) ?_
              refine lv_iload hx hb dX3_canGoOn_50 (lv_at hl 4 rfl) ?_
              refine mc_iV ⟨hx, hb, hml, hown, hts⟩ hK hE hA hP hD hS (hrec H.size h_t h_p1 B_t B_p1 t_used t_images_40 t_signsHere t_signsThere p1_n p1_cells x3 x4 h) (cwV 4 hts gX3_canGoOn_X3_canGoOnWith rfl rfl rfl (by decide +kernel) ⟨hRcF, hRcL⟩) (fun u => (w_X3_canGoOn_al Y h_t h_p1 B_t B_p1 u.1 u.2 t_signsHere t_signsThere p1_n p1_cells)) [0, 1, 2, 3, 4, 5] [] [0, 1, 2, 3, 4, 5] rfl rfl rfl rfl (by decide) (fun _ => rfl) rfl 0 3 rfl rfl rfl rfl hl.1 rfl (Nat.le_of_ble_eq_true rfl) dX3_canGoOn_52 (fun r52 u H locs h hP hD hS => ?_)
              obtain ⟨t_used_52, t_images_52⟩ := u
              try dsimp only at h
              have hP : va_P G vwCl (w_X3_canGoOn_al Y h_t h_p1 B_t B_p1 t_used_52 t_images_52 t_signsHere t_signsThere p1_n p1_cells) H := hP
              have hD : va_D A (w_X3_canGoOn_al Y h_t h_p1 B_t B_p1 t_used_52 t_images_52 t_signsHere t_signsThere p1_n p1_cells) := hD
              obtain ⟨ht, hf⟩ := h
              refine lv_if_eq (tgt := 60) hx hb dX3_canGoOn_55 (by decide) (fun c9 => ?_) (fun c9 => ?_)
              · have h := ht c9
                refine lv_iinc (v := (x4 + 1)) (lv' := [(4, .int (x4 + 1)), (0, .ref h_t), (1, .ref h_p1), (2, .ref h_p1), (3, .int x3)]) hx hb dX3_canGoOn_60 hl (k := 4) rfl rfl (by decide) rfl (fun ls hl => ?_)
                refine lv_goto (tgt := 13) hx hb dX3_canGoOn_63 (by decide) ?_
                exact rec13 (x4 + 1) t_used_52 t_images_52 H locs ls h hP hD hS (lv_sub hl [1, 2, 3, 4, 0] rfl)
              · have h := hf c9
                refine lv_iconst (v := 1) hx hb dX3_canGoOn_58 (by decide) ?_
                obtain ⟨hz, h⟩ := h
                exact hret (1 : Int32) t_used_52 t_images_52 H locs ls _ hP hD hS hz h dX3_canGoOn_59
    exact L13 x3 I13 m13 hB13 _ (0 : Int32) t_used t_images H locs ls hI13 (Nat.lt_succ_self _) hP hD hS (lv_sub hl [1, 2, 3, 4, 0] rfl)
  · have h := hf c9
    refine lv_iconst (v := 1) hx hb dX3_canGoOn_8 (by decide) ?_
    obtain ⟨hz, h⟩ := h
    exact hret (1 : Int32) t_used t_images H locs ls _ hP hD hS hz h dX3_canGoOn_9

set_option maxHeartbeats 4000000 in
set_option maxRecDepth 100000 in
theorem cs_X3_canGoOnWith_al (l : Launch) (d : Nat) (G : va_G) (Y : Nat → ClassId) (tF sz : Nat) (h_t : Nat) (h_p1 : Nat) (B_t : Nat → Nat) (B_p1 : Nat → Nat) (t_used : Int32) (t_images : Nat → Int32) (t_signsHere : Nat → Int32) (t_signsThere : Nat → Int32) (p1_n : Int32) (p1_cells : Nat → Int32) (x3 : Int32) (x4 : Int32) {K : Int32 → Int32 → (Nat → Int32) → Prop} (hrec : ∀ (sz : Nat) (h_t : Nat) (h_p1 : Nat) (B_t : Nat → Nat) (B_p1 : Nat → Nat) (t_used : Int32) (t_images : Nat → Int32) (t_signsHere : Nat → Int32) (t_signsThere : Nat → Int32) (p1_n : Int32) (p1_cells : Nat → Int32) (x3 : Int32) {K : Int32 → Int32 → (Nat → Int32) → Prop}, pX3_canGoOn d t_used t_images t_signsHere t_signsThere p1_n p1_cells p1_n p1_cells x3 K → Met l yX3_canGoOn wsX3_canGoOn ({ frames := (2 + 2 * d), cells := 0, slots := 0, locals := (52 + d * 49) }) (PcM G Y tF sz (w_X3_canGoOn_al Y h_t h_p1 B_t B_p1 t_used t_images t_signsHere t_signsThere p1_n p1_cells) [.ref h_t, .ref h_p1, .ref h_p1, .int x3]) (va_Qi (fun (r : Int32) (u : Int32 × (Nat → Int32)) => K r u.1 u.2) (fun u t => BM G Y (va_A (w_X3_canGoOn_al Y h_t h_p1 B_t B_p1 t_used t_images t_signsHere t_signsThere p1_n p1_cells) sz) (w_X3_canGoOn_al Y h_t h_p1 B_t B_p1 u.1 u.2 t_signsHere t_signsThere p1_n p1_cells) t) (va_A (w_X3_canGoOn_al Y h_t h_p1 B_t B_p1 t_used t_images t_signsHere t_signsThere p1_n p1_cells) sz)) 0 0 (va_A (w_X3_canGoOn_al Y h_t h_p1 B_t B_p1 t_used t_images t_signsHere t_signsThere p1_n p1_cells) sz)) (h : pX3_canGoOnWith d t_used t_images t_signsHere t_signsThere p1_n p1_cells p1_n p1_cells x3 x4 K) : Met l yX3_canGoOnWith wsX3_canGoOnWith ({ frames := (2 + 2 * d + 1), cells := 0, slots := 0, locals := (52 + d * 49 + 24) }) (PcM G Y tF sz (w_X3_canGoOnWith_al Y h_t h_p1 B_t B_p1 t_used t_images t_signsHere t_signsThere p1_n p1_cells) [.ref h_t, .ref h_p1, .ref h_p1, .int x3, .int x4]) (va_Qi (fun (r : Int32) (u : Int32 × (Nat → Int32)) => K r u.1 u.2) (fun u t => BM G Y (va_A (w_X3_canGoOnWith_al Y h_t h_p1 B_t B_p1 t_used t_images t_signsHere t_signsThere p1_n p1_cells) sz) (w_X3_canGoOnWith_al Y h_t h_p1 B_t B_p1 u.1 u.2 t_signsHere t_signsThere p1_n p1_cells) t) (va_A (w_X3_canGoOnWith_al Y h_t h_p1 B_t B_p1 t_used t_images t_signsHere t_signsThere p1_n p1_cells) sz)) 0 0 (va_A (w_X3_canGoOnWith_al Y h_t h_p1 B_t B_p1 t_used t_images t_signsHere t_signsThere p1_n p1_cells) sz) := by
  refine Met.ofW (cc := cX3_canGoOnWith) (maxL := 6) (ret := (some .boolean)) (by decide +kernel) rfl ?_
  intro p e s m args below meth c s₁ B hml hv
  obtain ⟨rfl, hsz, hP, hK, hD0, hE⟩ := hv
  have hts := atoms_spec (ws := wsX3_canGoOnWith) B.pre
  have hown : s.vm.findClass RX3 = some m.cls := findClass_of_methodNamed B.named
  have hlocks := B.notSynchronized
  subst hsz
  have hD := hD0.self (sz := s.heap.size)
  exact wk_X3_canGoOnWith_al h_t h_p1 B_t B_p1 t_used t_images t_signsHere t_signsThere p1_n p1_cells x3 x4 (rec := pX3_canGoOn d) (fB := (2 + 2 * d)) (lB := (52 + d * 49)) (by show _ ≤ _; simp only [headSpec]; omega) (by show _ ≤ _; simp only [headSpec]; omega) (fun sz h_t h_p1 B_t B_p1 t_used t_images t_signsHere t_signsThere p1_n p1_cells x3 _ hh => hrec sz h_t h_p1 B_t B_p1 t_used t_images t_signsHere t_signsThere p1_n p1_cells x3 hh) B.exec B.bytes hml hown hts hK hE (fun q h => Or.inr h) (by show _ ≤ _; simp only [headSpec]; omega) (by show _ ≤ _; simp only [headSpec]; omega) (fun r t_used t_images H locs ls pc hP hD hS hz hk hd => W.zret (v := r) B.exec B.bytes B.returns hz.n (fun t ht hW => ⟨⟨r, (t_used, t_images), rfl, hk, by rw [ht]; exact hP, va_K.moved hW.alike hK, hD⟩, hS.F ht⟩) hS.2.2 hd) hP hD h

set_option maxHeartbeats 4000000 in
set_option maxRecDepth 100000 in
theorem cs_X3_canGoOn_al (l : Launch) (d : Nat) (G : va_G) (Y : Nat → ClassId) (tF sz : Nat) (h_t : Nat) (h_p1 : Nat) (B_t : Nat → Nat) (B_p1 : Nat → Nat) (t_used : Int32) (t_images : Nat → Int32) (t_signsHere : Nat → Int32) (t_signsThere : Nat → Int32) (p1_n : Int32) (p1_cells : Nat → Int32) (x3 : Int32) {K : Int32 → Int32 → (Nat → Int32) → Prop} (hrec : ∀ (sz : Nat) (h_t : Nat) (h_p1 : Nat) (B_t : Nat → Nat) (B_p1 : Nat → Nat) (t_used : Int32) (t_images : Nat → Int32) (t_signsHere : Nat → Int32) (t_signsThere : Nat → Int32) (p1_n : Int32) (p1_cells : Nat → Int32) (x3 : Int32) (x4 : Int32) {K : Int32 → Int32 → (Nat → Int32) → Prop}, pX3_canGoOnWith d t_used t_images t_signsHere t_signsThere p1_n p1_cells p1_n p1_cells x3 x4 K → Met l yX3_canGoOnWith wsX3_canGoOnWith ({ frames := (2 + 2 * d + 1), cells := 0, slots := 0, locals := (52 + d * 49 + 24) }) (PcM G Y tF sz (w_X3_canGoOnWith_al Y h_t h_p1 B_t B_p1 t_used t_images t_signsHere t_signsThere p1_n p1_cells) [.ref h_t, .ref h_p1, .ref h_p1, .int x3, .int x4]) (va_Qi (fun (r : Int32) (u : Int32 × (Nat → Int32)) => K r u.1 u.2) (fun u t => BM G Y (va_A (w_X3_canGoOnWith_al Y h_t h_p1 B_t B_p1 t_used t_images t_signsHere t_signsThere p1_n p1_cells) sz) (w_X3_canGoOnWith_al Y h_t h_p1 B_t B_p1 u.1 u.2 t_signsHere t_signsThere p1_n p1_cells) t) (va_A (w_X3_canGoOnWith_al Y h_t h_p1 B_t B_p1 t_used t_images t_signsHere t_signsThere p1_n p1_cells) sz)) 0 0 (va_A (w_X3_canGoOnWith_al Y h_t h_p1 B_t B_p1 t_used t_images t_signsHere t_signsThere p1_n p1_cells) sz)) (h : pX3_canGoOn (d + 1) t_used t_images t_signsHere t_signsThere p1_n p1_cells p1_n p1_cells x3 K) : Met l yX3_canGoOn wsX3_canGoOn ({ frames := (2 + 2 * (d + 1)), cells := 0, slots := 0, locals := (52 + (d + 1) * 49) }) (PcM G Y tF sz (w_X3_canGoOn_al Y h_t h_p1 B_t B_p1 t_used t_images t_signsHere t_signsThere p1_n p1_cells) [.ref h_t, .ref h_p1, .ref h_p1, .int x3]) (va_Qi (fun (r : Int32) (u : Int32 × (Nat → Int32)) => K r u.1 u.2) (fun u t => BM G Y (va_A (w_X3_canGoOn_al Y h_t h_p1 B_t B_p1 t_used t_images t_signsHere t_signsThere p1_n p1_cells) sz) (w_X3_canGoOn_al Y h_t h_p1 B_t B_p1 u.1 u.2 t_signsHere t_signsThere p1_n p1_cells) t) (va_A (w_X3_canGoOn_al Y h_t h_p1 B_t B_p1 t_used t_images t_signsHere t_signsThere p1_n p1_cells) sz)) 0 0 (va_A (w_X3_canGoOn_al Y h_t h_p1 B_t B_p1 t_used t_images t_signsHere t_signsThere p1_n p1_cells) sz) := by
  refine Met.ofW (cc := cX3_canGoOn) (maxL := 5) (ret := (some .boolean)) (by decide +kernel) rfl ?_
  intro p e s m args below meth c s₁ B hml hv
  obtain ⟨rfl, hsz, hP, hK, hD0, hE⟩ := hv
  have hts := atoms_spec (ws := wsX3_canGoOn) B.pre
  have hown : s.vm.findClass RX3 = some m.cls := findClass_of_methodNamed B.named
  have hlocks := B.notSynchronized
  subst hsz
  have hD := hD0.self (sz := s.heap.size)
  exact wk_X3_canGoOn_al h_t h_p1 B_t B_p1 t_used t_images t_signsHere t_signsThere p1_n p1_cells x3 (rec := pX3_canGoOnWith d) (fB := (2 + 2 * d + 1)) (lB := (52 + d * 49 + 24)) (by show _ ≤ _; simp only [headSpec]; omega) (by show _ ≤ _; simp only [headSpec]; omega) (fun sz h_t h_p1 B_t B_p1 t_used t_images t_signsHere t_signsThere p1_n p1_cells x3 x4 _ hh => hrec sz h_t h_p1 B_t B_p1 t_used t_images t_signsHere t_signsThere p1_n p1_cells x3 x4 hh) B.exec B.bytes hml hown hts hK hE (fun q h => Or.inr h) (by show _ ≤ _; simp only [headSpec]; omega) (by show _ ≤ _; simp only [headSpec]; omega) (fun r t_used t_images H locs ls pc hP hD hS hz hk hd => W.zret (v := r) B.exec B.bytes B.returns hz.n (fun t ht hW => ⟨⟨r, (t_used, t_images), rfl, hk, by rw [ht]; exact hP, va_K.moved hW.alike hK, hD⟩, hS.F ht⟩) hS.2.2 hd) hP hD h

theorem c_X3_canGoOn_al (d : Nat) (l : Launch) (G : va_G) (Y : Nat → ClassId) (tF sz : Nat) (h_t : Nat) (h_p1 : Nat) (B_t : Nat → Nat) (B_p1 : Nat → Nat) (t_used : Int32) (t_images : Nat → Int32) (t_signsHere : Nat → Int32) (t_signsThere : Nat → Int32) (p1_n : Int32) (p1_cells : Nat → Int32) (x3 : Int32) {K : Int32 → Int32 → (Nat → Int32) → Prop} (h : pX3_canGoOn d t_used t_images t_signsHere t_signsThere p1_n p1_cells p1_n p1_cells x3 K) : Met l yX3_canGoOn wsX3_canGoOn ({ frames := (2 + 2 * d), cells := 0, slots := 0, locals := (52 + d * 49) }) (PcM G Y tF sz (w_X3_canGoOn_al Y h_t h_p1 B_t B_p1 t_used t_images t_signsHere t_signsThere p1_n p1_cells) [.ref h_t, .ref h_p1, .ref h_p1, .int x3]) (va_Qi (fun (r : Int32) (u : Int32 × (Nat → Int32)) => K r u.1 u.2) (fun u t => BM G Y (va_A (w_X3_canGoOn_al Y h_t h_p1 B_t B_p1 t_used t_images t_signsHere t_signsThere p1_n p1_cells) sz) (w_X3_canGoOn_al Y h_t h_p1 B_t B_p1 u.1 u.2 t_signsHere t_signsThere p1_n p1_cells) t) (va_A (w_X3_canGoOn_al Y h_t h_p1 B_t B_p1 t_used t_images t_signsHere t_signsThere p1_n p1_cells) sz)) 0 0 (va_A (w_X3_canGoOn_al Y h_t h_p1 B_t B_p1 t_used t_images t_signsHere t_signsThere p1_n p1_cells) sz) := by
  induction d generalizing sz h_t h_p1 B_t B_p1 t_used t_images t_signsHere t_signsThere p1_n p1_cells x3 K with
  | zero => exact h.elim
  | succ d ih => exact cs_X3_canGoOn_al l d G Y tF sz h_t h_p1 B_t B_p1 t_used t_images t_signsHere t_signsThere p1_n p1_cells x3 (fun sz h_t h_p1 B_t B_p1 t_used t_images t_signsHere t_signsThere p1_n p1_cells x3 x4 _ hh => cs_X3_canGoOnWith_al l d G Y tF sz h_t h_p1 B_t B_p1 t_used t_images t_signsHere t_signsThere p1_n p1_cells x3 x4 (fun sz h_t h_p1 B_t B_p1 t_used t_images t_signsHere t_signsThere p1_n p1_cells x3 _ hh => ih sz h_t h_p1 B_t B_p1 t_used t_images t_signsHere t_signsThere p1_n p1_cells x3 hh) hh) h

theorem c_X3_canGoOnWith_al (d : Nat) (l : Launch) (G : va_G) (Y : Nat → ClassId) (tF sz : Nat) (h_t : Nat) (h_p1 : Nat) (B_t : Nat → Nat) (B_p1 : Nat → Nat) (t_used : Int32) (t_images : Nat → Int32) (t_signsHere : Nat → Int32) (t_signsThere : Nat → Int32) (p1_n : Int32) (p1_cells : Nat → Int32) (x3 : Int32) (x4 : Int32) {K : Int32 → Int32 → (Nat → Int32) → Prop} (h : pX3_canGoOnWith d t_used t_images t_signsHere t_signsThere p1_n p1_cells p1_n p1_cells x3 x4 K) : Met l yX3_canGoOnWith wsX3_canGoOnWith ({ frames := (2 + 2 * d + 1), cells := 0, slots := 0, locals := (52 + d * 49 + 24) }) (PcM G Y tF sz (w_X3_canGoOnWith_al Y h_t h_p1 B_t B_p1 t_used t_images t_signsHere t_signsThere p1_n p1_cells) [.ref h_t, .ref h_p1, .ref h_p1, .int x3, .int x4]) (va_Qi (fun (r : Int32) (u : Int32 × (Nat → Int32)) => K r u.1 u.2) (fun u t => BM G Y (va_A (w_X3_canGoOnWith_al Y h_t h_p1 B_t B_p1 t_used t_images t_signsHere t_signsThere p1_n p1_cells) sz) (w_X3_canGoOnWith_al Y h_t h_p1 B_t B_p1 u.1 u.2 t_signsHere t_signsThere p1_n p1_cells) t) (va_A (w_X3_canGoOnWith_al Y h_t h_p1 B_t B_p1 t_used t_images t_signsHere t_signsThere p1_n p1_cells) sz)) 0 0 (va_A (w_X3_canGoOnWith_al Y h_t h_p1 B_t B_p1 t_used t_images t_signsHere t_signsThere p1_n p1_cells) sz) :=
  cs_X3_canGoOnWith_al l d G Y tF sz h_t h_p1 B_t B_p1 t_used t_images t_signsHere t_signsThere p1_n p1_cells x3 x4 (fun sz h_t h_p1 B_t B_p1 t_used t_images t_signsHere t_signsThere p1_n p1_cells x3 _ hh => c_X3_canGoOn_al d l G Y tF sz h_t h_p1 B_t B_p1 t_used t_images t_signsHere t_signsThere p1_n p1_cells x3 hh) h

abbrev w_X3_matches (Y : Nat → ClassId) (h_t : Nat) (h_p1 : Nat) (h_p2 : Nat) (B_t : Nat → Nat) (B_p1 : Nat → Nat) (B_p2 : Nat → Nat) (t_used : Int32) (t_images : Nat → Int32) (t_signsHere : Nat → Int32) (t_signsThere : Nat → Int32) (p1_n : Int32) (p1_cells : Nat → Int32) (p2_n : Int32) (p2_cells : Nat → Int32) : va_W := [(h_t, .inr (3, [.ref (B_t 0), .ref (B_t 1), .ref (B_t 2), .int t_used])), ((B_t 2), .inl (Y 0, 8, .inl t_images)), ((B_t 0), .inl (Y 0, 8, .inl t_signsHere)), ((B_t 1), .inl (Y 0, 8, .inl t_signsThere)), (h_p1, .inr (6, [.ref (B_p1 0), .int p1_n])), ((B_p1 0), .inl (Y 0, 64, .inl p1_cells)), (h_p2, .inr (6, [.ref (B_p2 0), .int p2_n])), ((B_p2 0), .inl (Y 0, 64, .inl p2_cells))]

set_option maxHeartbeats 4000000 in
set_option maxRecDepth 100000 in
theorem wk_X3_matches {p : Program} {l : Launch} {e : Env} {R : Room} {s : State} {m : MethodId} {args : Array Value} {below : List Frame} {meth : Method} {c : Code} {Q : State → Prop} {G : va_G} {Y : Nat → ClassId} {tF : Nat} {A : Nat → Prop} (h_t : Nat) (h_p1 : Nat) (h_p2 : Nat) (B_t : Nat → Nat) (B_p1 : Nat → Nat) (B_p2 : Nat → Nat) (t_used : Int32) (t_images : Nat → Int32) (t_signsHere : Nat → Int32) (t_signsThere : Nat → Int32) (p1_n : Int32) (p1_cells : Nat → Int32) (p2_n : Int32) (p2_cells : Nat → Int32) {K : Int32 → Int32 → (Nat → Int32) → (Nat → Int32) → (Nat → Int32) → Prop} (hx : p.tables.exec = Jvm.exec) (hb : c.code = cX3_matches) (hml : c.maxLocals = 3) (hown : s.vm.findClass RX3 = some m.cls) (hts : ∀ w ∈ wsX3_matches, w.before args s = true) (hK : va_K G vwCl (tyL Y) s) (hE : Ev A tF s) (hA : ∀ q, s.heap.size ≤ q → A q) (hRf : 23 ≤ R.frames) (hRl : 566 ≤ R.locals) (hret : ∀ (r : Int32) (t_used : Int32) (t_images : Nat → Int32) (t_signsHere : Nat → Int32) (t_signsThere : Nat → Int32) (H : Heap) (locs : List Loc) (ls : Array Slot) (pc : Nat), va_P G vwCl (w_X3_matches Y h_t h_p1 h_p2 B_t B_p1 B_p2 t_used t_images t_signsHere t_signsThere p1_n p1_cells p2_n p2_cells) H → va_D A (w_X3_matches Y h_t h_p1 h_p2 B_t B_p1 B_p2 t_used t_images t_signsHere t_signsThere p1_n p1_cells p2_n p2_cells) → va_S A s.heap H locs → zb r → K r t_used t_images t_signsHere t_signsThere → decode cX3_matches pc = .ok (.ireturn, 1) → W p l e R s m args below meth c H locs 0 0 Q (F0 m pc ls [.int r])) (hP : va_P G vwCl (w_X3_matches Y h_t h_p1 h_p2 B_t B_p1 B_p2 t_used t_images t_signsHere t_signsThere p1_n p1_cells p2_n p2_cells) s.heap) (hD : va_D A (w_X3_matches Y h_t h_p1 h_p2 B_t B_p1 B_p2 t_used t_images t_signsHere t_signsThere p1_n p1_cells p2_n p2_cells)) (h : pX3_matches t_used t_images t_signsHere t_signsThere p1_n p1_cells p2_n p2_cells K) : W p l e R s m args below meth c s.heap [] 0 0 Q (entryFrame m ([.ref h_t, .ref h_p1, .ref h_p2] : List Value).toArray 3) := by
  have inX3 : ∀ w ∈ u_ws RX3 TX3 4, w ∈ wsX3_matches := by decide +kernel
  have inX7 : ∀ w ∈ u_ws RX7 TX7 2, w ∈ wsX3_matches := by decide +kernel
  have hf15 := hts (.fieldLink RX3 15 "RackBench$Matcher" "signsThere" "[I") (by decide +kernel)
  have hf21 := hts (.fieldLink RX3 21 "RackBench$Matcher" "used" "I") (by decide +kernel)
  have hf9 := hts (.fieldLink RX3 9 "RackBench$Matcher" "signsHere" "[I") (by decide +kernel)
  have hl := lv_entry ([.ref h_t, .ref h_p1, .ref h_p2]) (n := 3) (Nat.le_of_ble_eq_true rfl)
  rw [lg_entry_eq]
  generalize (lg_sl ([.ref h_t, .ref h_p1, .ref h_p2]) ++ List.replicate (3 - (lg_sl ([.ref h_t, .ref h_p1, .ref h_p2])).length) Slot.unset).toArray = ls at hl ⊢
  have hl : lv_has ls 3 [(0, .ref h_t), (1, .ref h_p1), (2, .ref h_p2)] := hl
  generalize hH0 : s.heap = H at hP ⊢
  have hS : va_S A s.heap H [] := by rw [← hH0]; exact va_S.rf
  clear hH0
  generalize ([] : List Loc) = locs at hS ⊢
  have J46 : ∀ (t_used : Int32) (t_images : Nat → Int32) (t_signsHere : Nat → Int32) (t_signsThere : Nat → Int32) (H : Heap) (locs : List Loc) (ls : Array Slot), pX3_matches_46 p1_n p1_cells p2_n p2_cells K t_used t_images t_signsHere t_signsThere → va_P G vwCl (w_X3_matches Y h_t h_p1 h_p2 B_t B_p1 B_p2 t_used t_images t_signsHere t_signsThere p1_n p1_cells p2_n p2_cells) H → va_D A (w_X3_matches Y h_t h_p1 h_p2 B_t B_p1 B_p2 t_used t_images t_signsHere t_signsThere p1_n p1_cells p2_n p2_cells) → va_S A s.heap H locs → lv_has ls 3 [] → W p l e R s m args below meth c H locs 0 0 Q (F0 m 46 ls []) := by
    intro t_used t_images t_signsHere t_signsThere H locs ls h hP hD hS hl
    refine lv_iconst (v := 0) hx hb dX3_matches_46 (by decide) ?_
    obtain ⟨hz, h⟩ := h
    exact hret (0 : Int32) t_used t_images t_signsHere t_signsThere H locs ls _ hP hD hS hz h dX3_matches_47
  refine lv_aload_n hx hb dX3_matches_0 rfl (lv_at hl 0 rfl) ?_
  refine lv_iconst (v := 0) hx hb dX3_matches_1 (by decide) ?_
  refine va_put (D := G) (ci := 3) (v := .int (0 : Int32)) (ty := .int) (C := RX3) (T := TX3) (N := 4) hx hb hts inX3 tyX3 tyX3_ok nmX3 hown hK hP hD hS 0 rfl rfl 3 (by decide) hf21 (fun _ h9 => h9) rfl (by decide +kernel) rfl rfl (Nat.le_of_ble_eq_true rfl) dX3_matches_2 (fun H locs hP hD hS => ?_)
  have hP : va_P G vwCl (w_X3_matches Y h_t h_p1 h_p2 B_t B_p1 B_p2 (0 : Int32) t_images t_signsHere t_signsThere p1_n p1_cells p2_n p2_cells) H := hP
  have hD : va_D A (w_X3_matches Y h_t h_p1 h_p2 B_t B_p1 B_p2 (0 : Int32) t_images t_signsHere t_signsThere p1_n p1_cells p2_n p2_cells) := hD
  refine lv_aload_n hx hb dX3_matches_5 rfl (lv_at hl 1 rfl) ?_
  refine lv_aload_n hx hb dX3_matches_6 rfl (lv_at hl 0 rfl) ?_
  refine va_get (D := G) (ci := 3) (v := .ref (B_t 0)) (C := RX3) (T := TX3) (N := 4) hx hb hts inX3 hown hK hP 0 rfl rfl 0 (by decide) hf9 (fun _ h9 => h9) rfl dX3_matches_7 ?_
  refine mc_vS ⟨hx, hb, hml, hown, hts⟩ hK hE hA hP hD hS (c_X3_tellSigns l G Y tF H.size h_p1 (B_t 0) B_p1 8 p1_n p1_cells t_signsHere h) (va_cwS 2 hts gX3_matches_X3_tellSigns rfl rfl rfl (by decide +kernel) ⟨Nat.le_trans (by decide) hRf, Nat.le_trans (by decide) hRl⟩) (fun u => (w_X3_matches Y h_t h_p1 h_p2 B_t B_p1 B_p2 (0 : Int32) t_images u t_signsThere p1_n p1_cells p2_n p2_cells)) [4, 5, 2] [0, 1, 3, 6, 7] [0, 1, 7, 2, 5, 6, 3, 4] rfl rfl rfl rfl (by decide) (fun _ => rfl) rfl rfl hl.1 rfl (Nat.le_of_ble_eq_true rfl) dX3_matches_10 (fun u H locs h hP hD hS => ?_)
  obtain ⟨t_signsHere_10, rfl⟩ : ∃ z, z = u := ⟨_, rfl⟩
  try dsimp only at h
  have hP : va_P G vwCl (w_X3_matches Y h_t h_p1 h_p2 B_t B_p1 B_p2 (0 : Int32) t_images t_signsHere_10 t_signsThere p1_n p1_cells p2_n p2_cells) H := hP
  have hD : va_D A (w_X3_matches Y h_t h_p1 h_p2 B_t B_p1 B_p2 (0 : Int32) t_images t_signsHere_10 t_signsThere p1_n p1_cells p2_n p2_cells) := hD
  refine lv_aload_n hx hb dX3_matches_13 rfl (lv_at hl 2 rfl) ?_
  refine lv_aload_n hx hb dX3_matches_14 rfl (lv_at hl 0 rfl) ?_
  refine va_get (D := G) (ci := 3) (v := .ref (B_t 1)) (C := RX3) (T := TX3) (N := 4) hx hb hts inX3 hown hK hP 0 rfl rfl 1 (by decide) hf15 (fun _ h9 => h9) rfl dX3_matches_15 ?_
  refine mc_vS ⟨hx, hb, hml, hown, hts⟩ hK hE hA hP hD hS (c_X3_tellSigns l G Y tF H.size h_p2 (B_t 1) B_p2 8 p2_n p2_cells t_signsThere h) (va_cwS 2 hts gX3_matches_X3_tellSigns rfl rfl rfl (by decide +kernel) ⟨Nat.le_trans (by decide) hRf, Nat.le_trans (by decide) hRl⟩) (fun u => (w_X3_matches Y h_t h_p1 h_p2 B_t B_p1 B_p2 (0 : Int32) t_images t_signsHere_10 u p1_n p1_cells p2_n p2_cells)) [6, 7, 3] [0, 1, 2, 4, 5] [0, 1, 2, 7, 3, 4, 5, 6] rfl rfl rfl rfl (by decide) (fun _ => rfl) rfl rfl hl.1 rfl (Nat.le_of_ble_eq_true rfl) dX3_matches_18 (fun u H locs h hP hD hS => ?_)
  obtain ⟨t_signsThere_18, rfl⟩ : ∃ z, z = u := ⟨_, rfl⟩
  try dsimp only at h
  have hP : va_P G vwCl (w_X3_matches Y h_t h_p1 h_p2 B_t B_p1 B_p2 (0 : Int32) t_images t_signsHere_10 t_signsThere_18 p1_n p1_cells p2_n p2_cells) H := hP
  have hD : va_D A (w_X3_matches Y h_t h_p1 h_p2 B_t B_p1 B_p2 (0 : Int32) t_images t_signsHere_10 t_signsThere_18 p1_n p1_cells p2_n p2_cells) := hD
  refine lv_aload_n hx hb dX3_matches_21 rfl (lv_at hl 1 rfl) ?_
  refine va_getN (D := G) (ci := 6) (v := .int p1_n) (C := RX7) (T := TX7) (N := 2) hx hb hts inX7 hown hK hP 4 rfl rfl 1 (by decide) (hE.nest args 9 _ rfl) (fun _ h9 => h9) rfl dX3_matches_22 ?_
  refine lv_aload_n hx hb dX3_matches_25 rfl (lv_at hl 2 rfl) ?_
  refine va_getN (D := G) (ci := 6) (v := .int p2_n) (C := RX7) (T := TX7) (N := 2) hx hb hts inX7 hown hK hP 6 rfl rfl 1 (by decide) (hE.nest args 9 _ rfl) (fun _ h9 => h9) rfl dX3_matches_26 ?_
  obtain ⟨ht, hf⟩ := h
  refine lv_icmp_ne (tgt := 46) hx hb dX3_matches_29 (by decide) (fun c9 => ?_) (fun c9 => ?_)
  · have h := ht c9
    exact J46 (0 : Int32) t_images t_signsHere_10 t_signsThere_18 H locs ls h hP hD hS (lv_sub hl [] rfl)
  · have h := hf c9
    refine lv_aload_n hx hb dX3_matches_32 rfl (lv_at hl 0 rfl) ?_
    refine lv_aload_n hx hb dX3_matches_33 rfl (lv_at hl 1 rfl) ?_
    refine lv_aload_n hx hb dX3_matches_34 rfl (lv_at hl 2 rfl) ?_
    refine lv_iconst (v := 0) hx hb dX3_matches_35 (by decide) ?_
    refine mc_iV ⟨hx, hb, hml, hown, hts⟩ hK hE hA hP hD hS (c_X3_canGoOn 10 l G Y tF H.size h_t h_p1 h_p2 B_t B_p1 B_p2 (0 : Int32) t_images t_signsHere_10 t_signsThere_18 p1_n p1_cells p2_n p2_cells (0 : Int32) h) (cwV 3 hts gX3_matches_X3_canGoOn rfl rfl rfl (by decide +kernel) ⟨Nat.le_trans (by decide) hRf, Nat.le_trans (by decide) hRl⟩) (fun u => (w_X3_matches Y h_t h_p1 h_p2 B_t B_p1 B_p2 u.1 u.2 t_signsHere_10 t_signsThere_18 p1_n p1_cells p2_n p2_cells)) [0, 1, 2, 3, 4, 5, 6, 7] [] [0, 1, 2, 3, 4, 5, 6, 7] rfl rfl rfl rfl (by decide) (fun _ => rfl) rfl 0 3 rfl rfl rfl rfl hl.1 rfl (Nat.le_of_ble_eq_true rfl) dX3_matches_36 (fun r36 u H locs h hP hD hS => ?_)
    obtain ⟨t_used_36, t_images_36⟩ := u
    try dsimp only at h
    have hP : va_P G vwCl (w_X3_matches Y h_t h_p1 h_p2 B_t B_p1 B_p2 t_used_36 t_images_36 t_signsHere_10 t_signsThere_18 p1_n p1_cells p2_n p2_cells) H := hP
    have hD : va_D A (w_X3_matches Y h_t h_p1 h_p2 B_t B_p1 B_p2 t_used_36 t_images_36 t_signsHere_10 t_signsThere_18 p1_n p1_cells p2_n p2_cells) := hD
    obtain ⟨ht, hf⟩ := h
    refine lv_if_eq (tgt := 46) hx hb dX3_matches_39 (by decide) (fun c9 => ?_) (fun c9 => ?_)
    · have h := ht c9
      exact J46 t_used_36 t_images_36 t_signsHere_10 t_signsThere_18 H locs ls h hP hD hS (lv_sub hl [] rfl)
    · have h := hf c9
      refine lv_iconst (v := 1) hx hb dX3_matches_42 (by decide) ?_
      refine lv_goto (tgt := 47) hx hb dX3_matches_43 (by decide) ?_
      obtain ⟨hz, h⟩ := h
      exact hret (1 : Int32) t_used_36 t_images_36 t_signsHere_10 t_signsThere_18 H locs ls _ hP hD hS hz h dX3_matches_47

set_option maxHeartbeats 4000000 in
set_option maxRecDepth 100000 in
theorem c_X3_matches (l : Launch) (G : va_G) (Y : Nat → ClassId) (tF sz : Nat) (h_t : Nat) (h_p1 : Nat) (h_p2 : Nat) (B_t : Nat → Nat) (B_p1 : Nat → Nat) (B_p2 : Nat → Nat) (t_used : Int32) (t_images : Nat → Int32) (t_signsHere : Nat → Int32) (t_signsThere : Nat → Int32) (p1_n : Int32) (p1_cells : Nat → Int32) (p2_n : Int32) (p2_cells : Nat → Int32) {K : Int32 → Int32 → (Nat → Int32) → (Nat → Int32) → (Nat → Int32) → Prop} (h : pX3_matches t_used t_images t_signsHere t_signsThere p1_n p1_cells p2_n p2_cells K) : Met l yX3_matches wsX3_matches ({ frames := 23, cells := 0, slots := 0, locals := 566 }) (PcM G Y tF sz (w_X3_matches Y h_t h_p1 h_p2 B_t B_p1 B_p2 t_used t_images t_signsHere t_signsThere p1_n p1_cells p2_n p2_cells) [.ref h_t, .ref h_p1, .ref h_p2]) (va_Qi (fun (r : Int32) (u : Int32 × (Nat → Int32) × (Nat → Int32) × (Nat → Int32)) => K r u.1 u.2.1 u.2.2.1 u.2.2.2) (fun u t => BM G Y (va_A (w_X3_matches Y h_t h_p1 h_p2 B_t B_p1 B_p2 t_used t_images t_signsHere t_signsThere p1_n p1_cells p2_n p2_cells) sz) (w_X3_matches Y h_t h_p1 h_p2 B_t B_p1 B_p2 u.1 u.2.1 u.2.2.1 u.2.2.2 p1_n p1_cells p2_n p2_cells) t) (va_A (w_X3_matches Y h_t h_p1 h_p2 B_t B_p1 B_p2 t_used t_images t_signsHere t_signsThere p1_n p1_cells p2_n p2_cells) sz)) 0 0 (va_A (w_X3_matches Y h_t h_p1 h_p2 B_t B_p1 B_p2 t_used t_images t_signsHere t_signsThere p1_n p1_cells p2_n p2_cells) sz) := by
  refine Met.ofW (cc := cX3_matches) (maxL := 3) (ret := (some .boolean)) (by decide +kernel) rfl ?_
  intro p e s m args below meth c s₁ B hml hv
  obtain ⟨rfl, hsz, hP, hK, hD0, hE⟩ := hv
  have hts := atoms_spec (ws := wsX3_matches) B.pre
  have hown : s.vm.findClass RX3 = some m.cls := findClass_of_methodNamed B.named
  have hlocks := B.notSynchronized
  subst hsz
  have hD := hD0.self (sz := s.heap.size)
  exact wk_X3_matches h_t h_p1 h_p2 B_t B_p1 B_p2 t_used t_images t_signsHere t_signsThere p1_n p1_cells p2_n p2_cells B.exec B.bytes hml hown hts hK hE (fun q h => Or.inr h) (Nat.le_refl _) (Nat.le_refl _) (fun r t_used t_images t_signsHere t_signsThere H locs ls pc hP hD hS hz hk hd => W.zret (v := r) B.exec B.bytes B.returns hz.n (fun t ht hW => ⟨⟨r, (t_used, t_images, t_signsHere, t_signsThere), rfl, hk, by rw [ht]; exact hP, va_K.moved hW.alike hK, hD⟩, hS.F ht⟩) hS.2.2 hd) hP hD h

abbrev w_X3_countKeepers (Y : Nat → ClassId) (h_t : Nat) (h_p1 : Nat) (B_t : Nat → Nat) (B_p1 : Nat → Nat) (t_used : Int32) (t_images : Nat → Int32) (t_signsHere : Nat → Int32) (t_signsThere : Nat → Int32) (p1_n : Int32) (p1_cells : Nat → Int32) : va_W := [(h_t, .inr (3, [.ref (B_t 0), .ref (B_t 1), .ref (B_t 2), .int t_used])), ((B_t 2), .inl (Y 0, 8, .inl t_images)), ((B_t 0), .inl (Y 0, 8, .inl t_signsHere)), ((B_t 1), .inl (Y 0, 8, .inl t_signsThere)), (h_p1, .inr (6, [.ref (B_p1 0), .int p1_n])), ((B_p1 0), .inl (Y 0, 64, .inl p1_cells))]

set_option maxHeartbeats 4000000 in
set_option maxRecDepth 100000 in
theorem wk_X3_countKeepers {p : Program} {l : Launch} {e : Env} {R : Room} {s : State} {m : MethodId} {args : Array Value} {below : List Frame} {meth : Method} {c : Code} {Q : State → Prop} {G : va_G} {Y : Nat → ClassId} {tF : Nat} {A : Nat → Prop} (h_t : Nat) (h_p1 : Nat) (B_t : Nat → Nat) (B_p1 : Nat → Nat) (t_used : Int32) (t_images : Nat → Int32) (t_signsHere : Nat → Int32) (t_signsThere : Nat → Int32) (p1_n : Int32) (p1_cells : Nat → Int32) {K : Int32 → Int32 → (Nat → Int32) → (Nat → Int32) → (Nat → Int32) → Prop} (hx : p.tables.exec = Jvm.exec) (hb : c.code = cX3_countKeepers) (hml : c.maxLocals = 6) (hown : s.vm.findClass RX3 = some m.cls) (hts : ∀ w ∈ wsX3_countKeepers, w.before args s = true) (hK : va_K G vwCl (tyL Y) s) (hE : Ev A tF s) (hA : ∀ q, s.heap.size ≤ q → A q) (hRf : 24 ≤ R.frames) (hRl : 591 ≤ R.locals) (hret : ∀ (r : Int32) (t_used : Int32) (t_images : Nat → Int32) (t_signsHere : Nat → Int32) (t_signsThere : Nat → Int32) (H : Heap) (locs : List Loc) (ls : Array Slot) (pc : Nat), va_P G vwCl (w_X3_countKeepers Y h_t h_p1 B_t B_p1 t_used t_images t_signsHere t_signsThere p1_n p1_cells) H → va_D A (w_X3_countKeepers Y h_t h_p1 B_t B_p1 t_used t_images t_signsHere t_signsThere p1_n p1_cells) → va_S A s.heap H locs → K r t_used t_images t_signsHere t_signsThere → decode cX3_countKeepers pc = .ok (.ireturn, 1) → W p l e R s m args below meth c H locs 0 0 Q (F0 m pc ls [.int r])) (hP : va_P G vwCl (w_X3_countKeepers Y h_t h_p1 B_t B_p1 t_used t_images t_signsHere t_signsThere p1_n p1_cells) s.heap) (hD : va_D A (w_X3_countKeepers Y h_t h_p1 B_t B_p1 t_used t_images t_signsHere t_signsThere p1_n p1_cells)) (h : pX3_countKeepers t_used t_images t_signsHere t_signsThere p1_n p1_cells K) : W p l e R s m args below meth c s.heap [] 0 0 Q (entryFrame m ([.ref h_t, .ref h_p1] : List Value).toArray 6) := by
  have inX3 : ∀ w ∈ u_ws RX3 TX3 4, w ∈ wsX3_countKeepers := by decide +kernel
  have inX7 : ∀ w ∈ u_ws RX7 TX7 2, w ∈ wsX3_countKeepers := by decide +kernel
  have hf15 := hts (.fieldLink RX3 15 "RackBench$Matcher" "signsThere" "[I") (by decide +kernel)
  have hf18 := hts (.fieldLink RX3 18 "RackBench$Matcher" "images" "[I") (by decide +kernel)
  have hf21 := hts (.fieldLink RX3 21 "RackBench$Matcher" "used" "I") (by decide +kernel)
  have hf9 := hts (.fieldLink RX3 9 "RackBench$Matcher" "signsHere" "[I") (by decide +kernel)
  have hl := lv_entry ([.ref h_t, .ref h_p1]) (n := 6) (Nat.le_of_ble_eq_true rfl)
  rw [lg_entry_eq]
  generalize (lg_sl ([.ref h_t, .ref h_p1]) ++ List.replicate (6 - (lg_sl ([.ref h_t, .ref h_p1])).length) Slot.unset).toArray = ls at hl ⊢
  have hl : lv_has ls 6 [(0, .ref h_t), (1, .ref h_p1)] := hl
  generalize hH0 : s.heap = H at hP ⊢
  have hS : va_S A s.heap H [] := by rw [← hH0]; exact va_S.rf
  clear hH0
  generalize ([] : List Loc) = locs at hS ⊢
  refine lv_aload_n hx hb dX3_countKeepers_0 rfl (lv_at hl 0 rfl) ?_
  refine lv_iconst (v := 0) hx hb dX3_countKeepers_1 (by decide) ?_
  refine va_put (D := G) (ci := 3) (v := .int (0 : Int32)) (ty := .int) (C := RX3) (T := TX3) (N := 4) hx hb hts inX3 tyX3 tyX3_ok nmX3 hown hK hP hD hS 0 rfl rfl 3 (by decide) hf21 (fun _ h9 => h9) rfl (by decide +kernel) rfl rfl (Nat.le_of_ble_eq_true rfl) dX3_countKeepers_2 (fun H locs hP hD hS => ?_)
  have hP : va_P G vwCl (w_X3_countKeepers Y h_t h_p1 B_t B_p1 (0 : Int32) t_images t_signsHere t_signsThere p1_n p1_cells) H := hP
  have hD : va_D A (w_X3_countKeepers Y h_t h_p1 B_t B_p1 (0 : Int32) t_images t_signsHere t_signsThere p1_n p1_cells) := hD
  refine lv_aload_n hx hb dX3_countKeepers_5 rfl (lv_at hl 1 rfl) ?_
  refine lv_aload_n hx hb dX3_countKeepers_6 rfl (lv_at hl 0 rfl) ?_
  refine va_get (D := G) (ci := 3) (v := .ref (B_t 0)) (C := RX3) (T := TX3) (N := 4) hx hb hts inX3 hown hK hP 0 rfl rfl 0 (by decide) hf9 (fun _ h9 => h9) rfl dX3_countKeepers_7 ?_
  refine mc_vS ⟨hx, hb, hml, hown, hts⟩ hK hE hA hP hD hS (c_X3_tellSigns l G Y tF H.size h_p1 (B_t 0) B_p1 8 p1_n p1_cells t_signsHere h) (va_cwS 2 hts gX3_countKeepers_X3_tellSigns rfl rfl rfl (by decide +kernel) ⟨Nat.le_trans (by decide) hRf, Nat.le_trans (by decide) hRl⟩) (fun u => (w_X3_countKeepers Y h_t h_p1 B_t B_p1 (0 : Int32) t_images u t_signsThere p1_n p1_cells)) [4, 5, 2] [0, 1, 3] [0, 1, 5, 2, 3, 4] rfl rfl rfl rfl (by decide) (fun _ => rfl) rfl rfl hl.1 rfl (Nat.le_of_ble_eq_true rfl) dX3_countKeepers_10 (fun u H locs h hP hD hS => ?_)
  obtain ⟨t_signsHere_10, rfl⟩ : ∃ z, z = u := ⟨_, rfl⟩
  try dsimp only at h
  have hP : va_P G vwCl (w_X3_countKeepers Y h_t h_p1 B_t B_p1 (0 : Int32) t_images t_signsHere_10 t_signsThere p1_n p1_cells) H := hP
  have hD : va_D A (w_X3_countKeepers Y h_t h_p1 B_t B_p1 (0 : Int32) t_images t_signsHere_10 t_signsThere p1_n p1_cells) := hD
  refine lv_aload_n hx hb dX3_countKeepers_13 rfl (lv_at hl 1 rfl) ?_
  refine lv_aload_n hx hb dX3_countKeepers_14 rfl (lv_at hl 0 rfl) ?_
  refine va_get (D := G) (ci := 3) (v := .ref (B_t 1)) (C := RX3) (T := TX3) (N := 4) hx hb hts inX3 hown hK hP 0 rfl rfl 1 (by decide) hf15 (fun _ h9 => h9) rfl dX3_countKeepers_15 ?_
  refine mc_vS ⟨hx, hb, hml, hown, hts⟩ hK hE hA hP hD hS (c_X3_tellSigns l G Y tF H.size h_p1 (B_t 1) B_p1 8 p1_n p1_cells t_signsThere h) (va_cwS 2 hts gX3_countKeepers_X3_tellSigns rfl rfl rfl (by decide +kernel) ⟨Nat.le_trans (by decide) hRf, Nat.le_trans (by decide) hRl⟩) (fun u => (w_X3_countKeepers Y h_t h_p1 B_t B_p1 (0 : Int32) t_images t_signsHere_10 u p1_n p1_cells)) [4, 5, 3] [0, 1, 2] [0, 1, 2, 5, 3, 4] rfl rfl rfl rfl (by decide) (fun _ => rfl) rfl rfl hl.1 rfl (Nat.le_of_ble_eq_true rfl) dX3_countKeepers_18 (fun u H locs h hP hD hS => ?_)
  obtain ⟨t_signsThere_18, rfl⟩ : ∃ z, z = u := ⟨_, rfl⟩
  try dsimp only at h
  have hP : va_P G vwCl (w_X3_countKeepers Y h_t h_p1 B_t B_p1 (0 : Int32) t_images t_signsHere_10 t_signsThere_18 p1_n p1_cells) H := hP
  have hD : va_D A (w_X3_countKeepers Y h_t h_p1 B_t B_p1 (0 : Int32) t_images t_signsHere_10 t_signsThere_18 p1_n p1_cells) := hD
  refine lv_iconst (v := 1) hx hb dX3_countKeepers_21 (by decide) ?_
  refine lv_istore_n (lv' := [(2, .int (1 : Int32)), (0, .ref h_t), (1, .ref h_p1)]) hx hb dX3_countKeepers_22 rfl hl (by decide) rfl (fun ls hl => ?_)
  refine lv_iconst (v := 0) hx hb dX3_countKeepers_23 (by decide) ?_
  refine lv_istore_n (lv' := [(3, .int (0 : Int32)), (2, .int (1 : Int32)), (0, .ref h_t), (1, .ref h_p1)]) hx hb dX3_countKeepers_24 rfl hl (by decide) rfl (fun ls hl => ?_)
  obtain ⟨I25, m25, hI25, hB25⟩ := h
  have L25 : ∀ (t_signsHere : Nat → Int32) (t_signsThere : Nat → Int32) (I25 : Int32 → Int32 → Int32 → (Nat → Int32) → Prop) (m25 : Int32 → Int32 → Int32 → (Nat → Int32) → Nat), (∀ (x2 : Int32) (x3 : Int32) (t_used : Int32) (t_images : Nat → Int32), I25 x2 x3 t_used t_images → pX3_countKeepers_25 p1_n p1_cells K t_signsHere t_signsThere x2 x3 t_used t_images (fun x2' x3' t_used' t_images' => I25 x2' x3' t_used' t_images' ∧ m25 x2' x3' t_used' t_images' < m25 x2 x3 t_used t_images)) → ∀ (n : Nat) (x2 : Int32) (x3 : Int32) (t_used : Int32) (t_images : Nat → Int32) (H : Heap) (locs : List Loc) (ls : Array Slot), I25 x2 x3 t_used t_images → m25 x2 x3 t_used t_images < n → va_P G vwCl (w_X3_countKeepers Y h_t h_p1 B_t B_p1 t_used t_images t_signsHere t_signsThere p1_n p1_cells) H → va_D A (w_X3_countKeepers Y h_t h_p1 B_t B_p1 t_used t_images t_signsHere t_signsThere p1_n p1_cells) → va_S A s.heap H locs → lv_has ls 6 [(0, .ref h_t), (1, .ref h_p1), (2, .int x2), (3, .int x3)] → W p l e R s m args below meth c H locs 0 0 Q (F0 m 25 ls []) := by
    intro t_signsHere t_signsThere I25 m25 hB25 n
    induction n with
    | zero => intro x2 x3 t_used t_images H locs ls _ hm; exact absurd hm (Nat.not_lt_zero _)
    | succ n ih =>
      intro x2 x3 t_used t_images H locs ls hI hm hP hD hS hl
      obtain ⟨R25, h, rec25⟩ : ∃ R25 : Int32 → Int32 → Int32 → (Nat → Int32) → Prop, pX3_countKeepers_25 p1_n p1_cells K t_signsHere t_signsThere x2 x3 t_used t_images R25 ∧ ∀ (x2 : Int32) (x3 : Int32) (t_used : Int32) (t_images : Nat → Int32) (H : Heap) (locs : List Loc) (ls : Array Slot), R25 x2 x3 t_used t_images → va_P G vwCl (w_X3_countKeepers Y h_t h_p1 B_t B_p1 t_used t_images t_signsHere t_signsThere p1_n p1_cells) H → va_D A (w_X3_countKeepers Y h_t h_p1 B_t B_p1 t_used t_images t_signsHere t_signsThere p1_n p1_cells) → va_S A s.heap H locs → lv_has ls 6 [(0, .ref h_t), (1, .ref h_p1), (2, .int x2), (3, .int x3)] → W p l e R s m args below meth c H locs 0 0 Q (F0 m 25 ls []) := ⟨_, hB25 x2 x3 t_used t_images hI, fun x2 x3 t_used t_images H locs ls hh hP hD hS hl => ih x2 x3 t_used t_images H locs ls hh.1 (Nat.lt_of_lt_of_le hh.2 (Nat.le_of_lt_succ hm)) hP hD hS hl⟩
      refine lv_iload_n hx hb dX3_countKeepers_25 rfl (lv_at hl 3 rfl) ?_
      refine lv_aload_n hx hb dX3_countKeepers_26 rfl (lv_at hl 1 rfl) ?_
      refine va_getN (D := G) (ci := 6) (v := .int p1_n) (C := RX7) (T := TX7) (N := 2) hx hb hts inX7 hown hK hP 4 rfl rfl 1 (by decide) (hE.nest args 9 _ rfl) (fun _ h9 => h9) rfl dX3_countKeepers_27 ?_
      obtain ⟨ht, hf⟩ := h
      refine lv_icmp_ge (tgt := 111) hx hb dX3_countKeepers_30 (by decide) (fun c9 => ?_) (fun c9 => ?_)
      · have h := ht c9
        refine lv_iload_n hx hb dX3_countKeepers_111 rfl (lv_at hl 2 rfl) ?_
        exact hret x2 t_used t_images t_signsHere t_signsThere H locs ls _ hP hD hS h dX3_countKeepers_112
      · have h := hf c9
        refine lv_iconst (v := 0) hx hb dX3_countKeepers_33 (by decide) ?_
        refine lv_istore (lv' := [(4, .int (0 : Int32)), (0, .ref h_t), (1, .ref h_p1), (2, .int x2), (3, .int x3)]) hx hb dX3_countKeepers_34 hl (by decide) rfl (fun ls hl => ?_)
        refine lv_iload_n hx hb dX3_countKeepers_36 rfl (lv_at hl 4 rfl) ?_
        refine lv_istore (lv' := [(5, .int x3), (4, .int (0 : Int32)), (0, .ref h_t), (1, .ref h_p1), (2, .int x2), (3, .int x3)]) hx hb dX3_countKeepers_37 hl (by decide) rfl (fun ls hl => ?_)
        obtain ⟨I39, m39, hI39, hB39⟩ := h
        have L39 : ∀ (x2 : Int32) (x3 : Int32) (I39 : Int32 → Int32 → Int32 → (Nat → Int32) → Prop) (m39 : Int32 → Int32 → Int32 → (Nat → Int32) → Nat), (∀ (x4 : Int32) (x5 : Int32) (t_used : Int32) (t_images : Nat → Int32), I39 x4 x5 t_used t_images → pX3_countKeepers_39 p1_n p1_cells R25 K t_signsHere t_signsThere x2 x3 x4 x5 t_used t_images (fun x4' x5' t_used' t_images' => I39 x4' x5' t_used' t_images' ∧ m39 x4' x5' t_used' t_images' < m39 x4 x5 t_used t_images)) → ∀ (n : Nat) (x4 : Int32) (x5 : Int32) (t_used : Int32) (t_images : Nat → Int32) (H : Heap) (locs : List Loc) (ls : Array Slot), I39 x4 x5 t_used t_images → m39 x4 x5 t_used t_images < n → va_P G vwCl (w_X3_countKeepers Y h_t h_p1 B_t B_p1 t_used t_images t_signsHere t_signsThere p1_n p1_cells) H → va_D A (w_X3_countKeepers Y h_t h_p1 B_t B_p1 t_used t_images t_signsHere t_signsThere p1_n p1_cells) → va_S A s.heap H locs → lv_has ls 6 [(0, .ref h_t), (1, .ref h_p1), (2, .int x2), (3, .int x3), (4, .int x4), (5, .int x5)] → W p l e R s m args below meth c H locs 0 0 Q (F0 m 39 ls []) := by
          intro x2 x3 I39 m39 hB39 n
          induction n with
          | zero => intro x4 x5 t_used t_images H locs ls _ hm; exact absurd hm (Nat.not_lt_zero _)
          | succ n ih =>
            intro x4 x5 t_used t_images H locs ls hI hm hP hD hS hl
            obtain ⟨R39, h, rec39⟩ : ∃ R39 : Int32 → Int32 → Int32 → (Nat → Int32) → Prop, pX3_countKeepers_39 p1_n p1_cells R25 K t_signsHere t_signsThere x2 x3 x4 x5 t_used t_images R39 ∧ ∀ (x4 : Int32) (x5 : Int32) (t_used : Int32) (t_images : Nat → Int32) (H : Heap) (locs : List Loc) (ls : Array Slot), R39 x4 x5 t_used t_images → va_P G vwCl (w_X3_countKeepers Y h_t h_p1 B_t B_p1 t_used t_images t_signsHere t_signsThere p1_n p1_cells) H → va_D A (w_X3_countKeepers Y h_t h_p1 B_t B_p1 t_used t_images t_signsHere t_signsThere p1_n p1_cells) → va_S A s.heap H locs → lv_has ls 6 [(0, .ref h_t), (1, .ref h_p1), (2, .int x2), (3, .int x3), (4, .int x4), (5, .int x5)] → W p l e R s m args below meth c H locs 0 0 Q (F0 m 39 ls []) := ⟨_, hB39 x4 x5 t_used t_images hI, fun x4 x5 t_used t_images H locs ls hh hP hD hS hl => ih x4 x5 t_used t_images H locs ls hh.1 (Nat.lt_of_lt_of_le hh.2 (Nat.le_of_lt_succ hm)) hP hD hS hl⟩
            refine lv_iload hx hb dX3_countKeepers_39 (lv_at hl 5 rfl) ?_
            refine lv_aload_n hx hb dX3_countKeepers_41 rfl (lv_at hl 1 rfl) ?_
            refine va_getN (D := G) (ci := 6) (v := .int p1_n) (C := RX7) (T := TX7) (N := 2) hx hb hts inX7 hown hK hP 4 rfl rfl 1 (by decide) (hE.nest args 9 _ rfl) (fun _ h9 => h9) rfl dX3_countKeepers_42 ?_
            obtain ⟨ht, hf⟩ := h
            refine lv_icmp_ge (tgt := 81) hx hb dX3_countKeepers_45 (by decide) (fun c9 => ?_) (fun c9 => ?_)
            · have h := ht c9
              refine lv_iload_n hx hb dX3_countKeepers_81 rfl (lv_at hl 2 rfl) ?_
              refine lv_iload hx hb dX3_countKeepers_82 (lv_at hl 4 rfl) ?_
              refine lv_imul hx hb dX3_countKeepers_84 ?_
              refine lv_istore_n (lv' := [(2, .int (x2 * x4)), (0, .ref h_t), (1, .ref h_p1), (3, .int x3), (4, .int x4), (5, .int x5)]) hx hb dX3_countKeepers_85 rfl hl (by decide) rfl (fun ls hl => ?_)
              refine lv_aload_n hx hb dX3_countKeepers_86 rfl (lv_at hl 1 rfl) ?_
              refine va_get (D := G) (ci := 3) (v := .ref (B_t 2)) (C := RX3) (T := TX3) (N := 4) hx hb hts inX3 hown hK hP 0 rfl rfl 2 (by decide) hf18 (fun _ h9 => h9) rfl dX3_countKeepers_87 ?_
              refine lv_iload_n hx hb dX3_countKeepers_90 rfl (lv_at hl 3 rfl) ?_
              refine lv_iload_n hx hb dX3_countKeepers_91 rfl (lv_at hl 3 rfl) ?_
              obtain ⟨hin, h⟩ := h
              refine va_iast hx hb hK hP hD hS 1 0 rfl rfl hin dX3_countKeepers_92 (fun H locs hP hD hS => ?_)
              have hP : va_P G vwCl (w_X3_countKeepers Y h_t h_p1 B_t B_p1 t_used (upd t_images (Int32.toNatClampNeg x3) x3) t_signsHere t_signsThere p1_n p1_cells) H := hP
              have hD : va_D A (w_X3_countKeepers Y h_t h_p1 B_t B_p1 t_used (upd t_images (Int32.toNatClampNeg x3) x3) t_signsHere t_signsThere p1_n p1_cells) := hD
              refine lv_aload_n hx hb dX3_countKeepers_93 rfl (lv_at hl 1 rfl) ?_
              refine lv_dup hx hb dX3_countKeepers_94 rfl ?_
              refine va_get (D := G) (ci := 3) (v := .int t_used) (C := RX3) (T := TX3) (N := 4) hx hb hts inX3 hown hK hP 0 rfl rfl 3 (by decide) hf21 (fun _ h9 => h9) rfl dX3_countKeepers_95 ?_
              refine lv_iconst (v := 1) hx hb dX3_countKeepers_98 (by decide) ?_
              refine lv_iload_n hx hb dX3_countKeepers_99 rfl (lv_at hl 3 rfl) ?_
              refine lv_ishl hx hb dX3_countKeepers_100 ?_
              refine lv_ior hx hb dX3_countKeepers_101 ?_
              refine va_put (D := G) (ci := 3) (v := .int (t_used ||| ((1 : Int32) <<< (x3 &&& 31)))) (ty := .int) (C := RX3) (T := TX3) (N := 4) hx hb hts inX3 tyX3 tyX3_ok nmX3 hown hK hP hD hS 0 rfl rfl 3 (by decide) hf21 (fun _ h9 => h9) rfl (by decide +kernel) rfl rfl (Nat.le_of_ble_eq_true rfl) dX3_countKeepers_102 (fun H locs hP hD hS => ?_)
              have hP : va_P G vwCl (w_X3_countKeepers Y h_t h_p1 B_t B_p1 (t_used ||| ((1 : Int32) <<< (x3 &&& 31))) (upd t_images (Int32.toNatClampNeg x3) x3) t_signsHere t_signsThere p1_n p1_cells) H := hP
              have hD : va_D A (w_X3_countKeepers Y h_t h_p1 B_t B_p1 (t_used ||| ((1 : Int32) <<< (x3 &&& 31))) (upd t_images (Int32.toNatClampNeg x3) x3) t_signsHere t_signsThere p1_n p1_cells) := hD
              refine lv_iinc (v := (x3 + 1)) (lv' := [(3, .int (x3 + 1)), (2, .int (x2 * x4)), (0, .ref h_t), (1, .ref h_p1), (4, .int x4), (5, .int x5)]) hx hb dX3_countKeepers_105 hl (k := 3) rfl rfl (by decide) rfl (fun ls hl => ?_)
              refine lv_goto (tgt := 25) hx hb dX3_countKeepers_108 (by decide) ?_
              exact rec25 (x2 * x4) (x3 + 1) (t_used ||| ((1 : Int32) <<< (x3 &&& 31))) (upd t_images (Int32.toNatClampNeg x3) x3) H locs ls h hP hD hS (lv_sub hl [2, 3, 1, 0] rfl)
            · have h := hf c9
              refine lv_aload_n hx hb dX3_countKeepers_48 rfl (lv_at hl 0 rfl) ?_
              refine lv_aload_n hx hb dX3_countKeepers_49 rfl (lv_at hl 1 rfl) ?_
              refine lv_aload_n hx hb dX3_countKeepers_50 rfl (lv_at hl 1 rfl) ?_
              refine lv_iload_n hx hb dX3_countKeepers_51 rfl (lv_at hl 3 rfl) ?_
              refine lv_iload hx hb dX3_countKeepers_52 (lv_at hl 5 rfl) ?_
              refine mc_iV ⟨hx, hb, hml, hown, hts⟩ hK hE hA hP hD hS (c_X3_fits_al l G Y tF H.size h_t h_p1 B_t B_p1 t_used t_images t_signsHere t_signsThere p1_n p1_cells x3 x5 h) (cwV 4 hts gX3_countKeepers_X3_fits rfl rfl rfl (by decide +kernel) ⟨Nat.le_trans (by decide) hRf, Nat.le_trans (by decide) hRl⟩) (fun u => (w_X3_countKeepers Y h_t h_p1 B_t B_p1 t_used u t_signsHere t_signsThere p1_n p1_cells)) [0, 1, 2, 3, 4, 5] [] [0, 1, 2, 3, 4, 5] rfl rfl rfl rfl (by decide) (fun _ => rfl) rfl 0 3 rfl rfl rfl rfl hl.1 rfl (Nat.le_of_ble_eq_true rfl) dX3_countKeepers_54 (fun r54 u H locs h hP hD hS => ?_)
              obtain ⟨t_images_54, rfl⟩ : ∃ z, z = u := ⟨_, rfl⟩
              try dsimp only at h
              have hP : va_P G vwCl (w_X3_countKeepers Y h_t h_p1 B_t B_p1 t_used t_images_54 t_signsHere t_signsThere p1_n p1_cells) H := hP
              have hD : va_D A (w_X3_countKeepers Y h_t h_p1 B_t B_p1 t_used t_images_54 t_signsHere t_signsThere p1_n p1_cells) := hD
              obtain ⟨ht, hf⟩ := h
              refine lv_if_eq (tgt := 75) hx hb dX3_countKeepers_57 (by decide) (fun c9 => ?_) (fun c9 => ?_)
              · have h := ht c9
                refine lv_iinc (v := (x5 + 1)) (lv' := [(5, .int (x5 + 1)), (0, .ref h_t), (1, .ref h_p1), (2, .int x2), (3, .int x3), (4, .int x4)]) hx hb dX3_countKeepers_75 hl (k := 5) rfl rfl (by decide) rfl (fun ls hl => ?_)
                refine lv_goto (tgt := 39) hx hb dX3_countKeepers_78 (by decide) ?_
                exact rec39 x4 (x5 + 1) t_used t_images_54 H locs ls h hP hD hS (lv_sub hl [1, 2, 3, 4, 5, 0] rfl)
              · have h := hf c9
                refine lv_aload_n hx hb dX3_countKeepers_60 rfl (lv_at hl 0 rfl) ?_
                refine lv_aload_n hx hb dX3_countKeepers_61 rfl (lv_at hl 1 rfl) ?_
                refine lv_aload_n hx hb dX3_countKeepers_62 rfl (lv_at hl 1 rfl) ?_
                refine lv_iload_n hx hb dX3_countKeepers_63 rfl (lv_at hl 3 rfl) ?_
                refine lv_iload hx hb dX3_countKeepers_64 (lv_at hl 5 rfl) ?_
                refine mc_iV ⟨hx, hb, hml, hown, hts⟩ hK hE hA hP hD hS (c_X3_canGoOnWith_al 10 l G Y tF H.size h_t h_p1 B_t B_p1 t_used t_images_54 t_signsHere t_signsThere p1_n p1_cells x3 x5 h) (cwV 4 hts gX3_countKeepers_X3_canGoOnWith rfl rfl rfl (by decide +kernel) ⟨Nat.le_trans (by decide) hRf, Nat.le_trans (by decide) hRl⟩) (fun u => (w_X3_countKeepers Y h_t h_p1 B_t B_p1 u.1 u.2 t_signsHere t_signsThere p1_n p1_cells)) [0, 1, 2, 3, 4, 5] [] [0, 1, 2, 3, 4, 5] rfl rfl rfl rfl (by decide) (fun _ => rfl) rfl 0 3 rfl rfl rfl rfl hl.1 rfl (Nat.le_of_ble_eq_true rfl) dX3_countKeepers_66 (fun r66 u H locs h hP hD hS => ?_)
                obtain ⟨t_used_66, t_images_66⟩ := u
                try dsimp only at h
                have hP : va_P G vwCl (w_X3_countKeepers Y h_t h_p1 B_t B_p1 t_used_66 t_images_66 t_signsHere t_signsThere p1_n p1_cells) H := hP
                have hD : va_D A (w_X3_countKeepers Y h_t h_p1 B_t B_p1 t_used_66 t_images_66 t_signsHere t_signsThere p1_n p1_cells) := hD
                obtain ⟨ht, hf⟩ := h
                refine lv_if_eq (tgt := 75) hx hb dX3_countKeepers_69 (by decide) (fun c9 => ?_) (fun c9 => ?_)
                · have h := ht c9
                  refine lv_iinc (v := (x5 + 1)) (lv' := [(5, .int (x5 + 1)), (0, .ref h_t), (1, .ref h_p1), (2, .int x2), (3, .int x3), (4, .int x4)]) hx hb dX3_countKeepers_75 hl (k := 5) rfl rfl (by decide) rfl (fun ls hl => ?_)
                  refine lv_goto (tgt := 39) hx hb dX3_countKeepers_78 (by decide) ?_
                  exact rec39 x4 (x5 + 1) t_used_66 t_images_66 H locs ls h hP hD hS (lv_sub hl [1, 2, 3, 4, 5, 0] rfl)
                · have h := hf c9
                  refine lv_iinc (v := (x4 + 1)) (lv' := [(4, .int (x4 + 1)), (0, .ref h_t), (1, .ref h_p1), (2, .int x2), (3, .int x3), (5, .int x5)]) hx hb dX3_countKeepers_72 hl (k := 4) rfl rfl (by decide) rfl (fun ls hl => ?_)
                  refine lv_iinc (v := (x5 + 1)) (lv' := [(5, .int (x5 + 1)), (4, .int (x4 + 1)), (0, .ref h_t), (1, .ref h_p1), (2, .int x2), (3, .int x3)]) hx hb dX3_countKeepers_75 hl (k := 5) rfl rfl (by decide) rfl (fun ls hl => ?_)
                  refine lv_goto (tgt := 39) hx hb dX3_countKeepers_78 (by decide) ?_
                  exact rec39 (x4 + 1) (x5 + 1) t_used_66 t_images_66 H locs ls h hP hD hS (lv_sub hl [2, 3, 4, 5, 1, 0] rfl)
        exact L39 x2 x3 I39 m39 hB39 _ (0 : Int32) x3 t_used t_images H locs ls hI39 (Nat.lt_succ_self _) hP hD hS (lv_sub hl [2, 3, 4, 5, 1, 0] rfl)
  exact L25 t_signsHere_10 t_signsThere_18 I25 m25 hB25 _ (1 : Int32) (0 : Int32) (0 : Int32) t_images H locs ls hI25 (Nat.lt_succ_self _) hP hD hS (lv_sub hl [2, 3, 1, 0] rfl)

set_option maxHeartbeats 4000000 in
set_option maxRecDepth 100000 in
theorem c_X3_countKeepers (l : Launch) (G : va_G) (Y : Nat → ClassId) (tF sz : Nat) (h_t : Nat) (h_p1 : Nat) (B_t : Nat → Nat) (B_p1 : Nat → Nat) (t_used : Int32) (t_images : Nat → Int32) (t_signsHere : Nat → Int32) (t_signsThere : Nat → Int32) (p1_n : Int32) (p1_cells : Nat → Int32) {K : Int32 → Int32 → (Nat → Int32) → (Nat → Int32) → (Nat → Int32) → Prop} (h : pX3_countKeepers t_used t_images t_signsHere t_signsThere p1_n p1_cells K) : Met l yX3_countKeepers wsX3_countKeepers ({ frames := 24, cells := 0, slots := 0, locals := 591 }) (PcM G Y tF sz (w_X3_countKeepers Y h_t h_p1 B_t B_p1 t_used t_images t_signsHere t_signsThere p1_n p1_cells) [.ref h_t, .ref h_p1]) (va_Qi (fun (r : Int32) (u : Int32 × (Nat → Int32) × (Nat → Int32) × (Nat → Int32)) => K r u.1 u.2.1 u.2.2.1 u.2.2.2) (fun u t => BM G Y (va_A (w_X3_countKeepers Y h_t h_p1 B_t B_p1 t_used t_images t_signsHere t_signsThere p1_n p1_cells) sz) (w_X3_countKeepers Y h_t h_p1 B_t B_p1 u.1 u.2.1 u.2.2.1 u.2.2.2 p1_n p1_cells) t) (va_A (w_X3_countKeepers Y h_t h_p1 B_t B_p1 t_used t_images t_signsHere t_signsThere p1_n p1_cells) sz)) 0 0 (va_A (w_X3_countKeepers Y h_t h_p1 B_t B_p1 t_used t_images t_signsHere t_signsThere p1_n p1_cells) sz) := by
  refine Met.ofW (cc := cX3_countKeepers) (maxL := 6) (ret := (some .int)) (by decide +kernel) rfl ?_
  intro p e s m args below meth c s₁ B hml hv
  obtain ⟨rfl, hsz, hP, hK, hD0, hE⟩ := hv
  have hts := atoms_spec (ws := wsX3_countKeepers) B.pre
  have hown : s.vm.findClass RX3 = some m.cls := findClass_of_methodNamed B.named
  have hlocks := B.notSynchronized
  subst hsz
  have hD := hD0.self (sz := s.heap.size)
  exact wk_X3_countKeepers h_t h_p1 B_t B_p1 t_used t_images t_signsHere t_signsThere p1_n p1_cells B.exec B.bytes hml hown hts hK hE (fun q h => Or.inr h) (Nat.le_refl _) (Nat.le_refl _) (fun r t_used t_images t_signsHere t_signsThere H locs ls pc hP hD hS hk hd => W.iret (v := r) B.exec B.bytes B.returns (fun t ht hW => ⟨⟨r, (t_used, t_images, t_signsHere, t_signsThere), rfl, hk, by rw [ht]; exact hP, va_K.moved hW.alike hK, hD⟩, hS.F ht⟩) hS.2.2 hd) hP hD h
