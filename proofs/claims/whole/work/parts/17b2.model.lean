abbrev w_X11_moves (Y : Nat → ClassId) (h_t : Nat) (B_t : Nat → Nat) (t_thrown : Int32) (t_n : Int32) (t_modulus : Int32) (t_rows : Int32) (t_strands : Int32) (t_letters : Int32) (t_listedMany : Int32) (t_listN : Int32) (t_listWhat : Int32) (t_f : Nat → Int32) (t_g : Nat → Int32) (t_met : Nat → Int32) (t_queue : Nat → Int32) (t_table : Nat → Int32) : va_W := [(h_t, .inr (10, [.int t_thrown, .int t_n, .ref (B_t 2), .int t_modulus, .ref (B_t 4), .ref (B_t 5), .ref (B_t 6), .ref (B_t 7), .ref (B_t 8), .ref (B_t 9), .ref (B_t 10), .int t_rows, .ref (B_t 12), .ref (B_t 13), .ref (B_t 14), .ref (B_t 15), .ref (B_t 16), .ref (B_t 17), .ref (B_t 18), .ref (B_t 19), .int t_strands, .int t_letters, .ref (B_t 22), .ref (B_t 23), .ref (B_t 24), .ref (B_t 25), .int t_listedMany, .int t_listN, .int t_listWhat])), ((B_t 5), .inl (Y 0, 8, .inl t_f)), ((B_t 6), .inl (Y 0, 8, .inl t_g)), ((B_t 14), .inl (Y 1, 40320, .inl t_met)), ((B_t 15), .inl (Y 0, 40320, .inl t_queue)), ((B_t 2), .inl (Y 0, 64, .inl t_table))]

set_option maxHeartbeats 20000000 in
set_option maxRecDepth 100000 in
theorem wk_X11_moves {p : Program} {l : Launch} {e : Env} {R : Room} {s : State} {m : MethodId} {args : Array Value} {below : List Frame} {meth : Method} {c : Code} {Q : State → Prop} {G : va_G} {Y : Nat → ClassId} {tF : Nat} {A : Nat → Prop} (h_t : Nat) (B_t : Nat → Nat) (t_thrown : Int32) (t_n : Int32) (t_modulus : Int32) (t_rows : Int32) (t_strands : Int32) (t_letters : Int32) (t_listedMany : Int32) (t_listN : Int32) (t_listWhat : Int32) (t_f : Nat → Int32) (t_g : Nat → Int32) (t_met : Nat → Int32) (t_queue : Nat → Int32) (t_table : Nat → Int32) {K : Int32 → Int32 → (Nat → Int32) → (Nat → Int32) → (Nat → Int32) → (Nat → Int32) → Prop} (hx : p.tables.exec = Jvm.exec) (hb : c.code = cX11_moves) (hml : c.maxLocals = 6) (hown : s.vm.findClass RX11 = some m.cls) (hts : ∀ w ∈ wsX11_moves, w.before args s = true) (hK : va_K G vwCl (tyL Y) s) (hE : Ev A tF s) (hA : ∀ q, s.heap.size ≤ q → A q) (hRf : 12 ≤ R.frames) (hRl : 248 ≤ R.locals) (hret : ∀ (r : Int32) (t_thrown : Int32) (t_f : Nat → Int32) (t_g : Nat → Int32) (t_met : Nat → Int32) (t_queue : Nat → Int32) (H : Heap) (locs : List Loc) (ls : Array Slot) (pc : Nat), va_P G vwCl (w_X11_moves Y h_t B_t t_thrown t_n t_modulus t_rows t_strands t_letters t_listedMany t_listN t_listWhat t_f t_g t_met t_queue t_table) H → va_D A (w_X11_moves Y h_t B_t t_thrown t_n t_modulus t_rows t_strands t_letters t_listedMany t_listN t_listWhat t_f t_g t_met t_queue t_table) → va_S A s.heap H locs → K r t_thrown t_f t_g t_met t_queue → decode cX11_moves pc = .ok (.ireturn, 1) → W p l e R s m args below meth c H locs 0 0 Q (F0 m pc ls [.int r])) (hP : va_P G vwCl (w_X11_moves Y h_t B_t t_thrown t_n t_modulus t_rows t_strands t_letters t_listedMany t_listN t_listWhat t_f t_g t_met t_queue t_table) s.heap) (hD : va_D A (w_X11_moves Y h_t B_t t_thrown t_n t_modulus t_rows t_strands t_letters t_listedMany t_listN t_listWhat t_f t_g t_met t_queue t_table)) (h : pX11_moves t_thrown t_n t_f t_g t_met t_queue t_table K) : W p l e R s m args below meth c s.heap [] 0 0 Q (entryFrame m ([.ref h_t] : List Value).toArray 6) := by
  have inX11 : ∀ w ∈ u_ws RX11 TX11 29, w ∈ wsX11_moves := by decide +kernel
  have hf23 := hts (.fieldLink RX11 23 "RackBenchModel" "f" "[I") (by decide +kernel)
  have hf26 := hts (.fieldLink RX11 26 "RackBenchModel" "g" "[I") (by decide +kernel)
  have hf48 := hts (.fieldLink RX11 48 "RackBenchModel" "met" "[Z") (by decide +kernel)
  have hf52 := hts (.fieldLink RX11 52 "RackBenchModel" "queue" "[I") (by decide +kernel)
  have hf83 := hts (.fieldLink RX11 83 "RackBenchModel" "thrown" "I") (by decide +kernel)
  have hf9 := hts (.fieldLink RX11 9 "RackBenchModel" "n" "I") (by decide +kernel)
  have hl := lv_entry ([.ref h_t]) (n := 6) (Nat.le_of_ble_eq_true rfl)
  rw [lg_entry_eq]
  generalize (lg_sl ([.ref h_t]) ++ List.replicate (6 - (lg_sl ([.ref h_t])).length) Slot.unset).toArray = ls at hl ⊢
  have hl : lv_has ls 6 [(0, .ref h_t)] := hl
  generalize hH0 : s.heap = H at hP ⊢
  have hS : va_S A s.heap H [] := by rw [← hH0]; exact va_S.rf
  clear hH0
  generalize ([] : List Loc) = locs at hS ⊢
  refine lv_aload_n hx hb dX11_moves_0 rfl (lv_at hl 0 rfl) ?_
  refine lv_iconst (v := 0) hx hb dX11_moves_1 (by decide) ?_
  refine va_put (D := G) (ci := 10) (v := .int (0 : Int32)) (ty := .int) (C := RX11) (T := TX11) (N := 29) hx hb hts inX11 tyX11 tyX11_ok nmX11 hown hK hP hD hS 0 rfl rfl 0 (by decide) hf83 (fun _ h9 => h9) rfl (by decide +kernel) rfl rfl (Nat.le_of_ble_eq_true rfl) dX11_moves_2 (fun H locs hP hD hS => ?_)
  have hP : va_P G vwCl (w_X11_moves Y h_t B_t (0 : Int32) t_n t_modulus t_rows t_strands t_letters t_listedMany t_listN t_listWhat t_f t_g t_met t_queue t_table) H := hP
  have hD : va_D A (w_X11_moves Y h_t B_t (0 : Int32) t_n t_modulus t_rows t_strands t_letters t_listedMany t_listN t_listWhat t_f t_g t_met t_queue t_table) := hD
  refine lv_aload_n hx hb dX11_moves_5 rfl (lv_at hl 0 rfl) ?_
  refine mc_iV ⟨hx, hb, hml, hown, hts⟩ hK hE hA hP hD hS (c_X11_isRack l G Y tF H.size h_t B_t (0 : Int32) t_n t_modulus t_rows t_strands t_letters t_listedMany t_listN t_listWhat t_table h) (cwV 0 hts gX11_moves_X11_isRack rfl rfl rfl (by decide +kernel) ⟨Nat.le_trans (by decide) hRf, Nat.le_trans (by decide) hRl⟩) (fun u => (w_X11_moves Y h_t B_t (0 : Int32) t_n t_modulus t_rows t_strands t_letters t_listedMany t_listN t_listWhat t_f t_g t_met t_queue t_table)) [0, 5] [1, 2, 3, 4] [4, 0, 1, 2, 3, 5] rfl rfl rfl rfl (by decide) (fun _ => rfl) rfl 0 10 rfl rfl rfl rfl hl.1 rfl (Nat.le_of_ble_eq_true rfl) dX11_moves_6 (fun r6 u H locs h hP hD hS => ?_)
  try dsimp only at h
  have hP : va_P G vwCl (w_X11_moves Y h_t B_t (0 : Int32) t_n t_modulus t_rows t_strands t_letters t_listedMany t_listN t_listWhat t_f t_g t_met t_queue t_table) H := hP
  have hD : va_D A (w_X11_moves Y h_t B_t (0 : Int32) t_n t_modulus t_rows t_strands t_letters t_listedMany t_listN t_listWhat t_f t_g t_met t_queue t_table) := hD
  obtain ⟨ht, hf⟩ := h
  refine lv_if_ne (tgt := 14) hx hb dX11_moves_9 (by decide) (fun c9 => ?_) (fun c9 => ?_)
  · have h := ht c9
    refine lv_aload_n hx hb dX11_moves_14 rfl (lv_at hl 0 rfl) ?_
    refine va_get (D := G) (ci := 10) (v := .int t_n) (C := RX11) (T := TX11) (N := 29) hx hb hts inX11 hown hK hP 0 rfl rfl 1 (by decide) hf9 (fun _ h9 => h9) rfl dX11_moves_15 ?_
    refine mc_iS ⟨hx, hb, hml, hown, hts⟩ hK hE hA hP hD hS (c_X11_factorial 10 l G Y tF H.size t_n h) (va_cwS 1 hts gX11_moves_X11_factorial rfl rfl rfl (by decide +kernel) ⟨Nat.le_trans (by decide) hRf, Nat.le_trans (by decide) hRl⟩) (fun u => (w_X11_moves Y h_t B_t (0 : Int32) t_n t_modulus t_rows t_strands t_letters t_listedMany t_listN t_listWhat t_f t_g t_met t_queue t_table)) [] [0, 1, 2, 3, 4, 5] [0, 1, 2, 3, 4, 5] rfl rfl rfl rfl (by decide) (fun _ => rfl) rfl rfl hl.1 rfl (Nat.le_of_ble_eq_true rfl) dX11_moves_18 (fun r18 u H locs h hP hD hS => ?_)
    try dsimp only at h
    have hP : va_P G vwCl (w_X11_moves Y h_t B_t (0 : Int32) t_n t_modulus t_rows t_strands t_letters t_listedMany t_listN t_listWhat t_f t_g t_met t_queue t_table) H := hP
    have hD : va_D A (w_X11_moves Y h_t B_t (0 : Int32) t_n t_modulus t_rows t_strands t_letters t_listedMany t_listN t_listWhat t_f t_g t_met t_queue t_table) := hD
    refine lv_istore_n (lv' := [(1, .int r18), (0, .ref h_t)]) hx hb dX11_moves_21 rfl hl (by decide) rfl (fun ls hl => ?_)
    refine lv_iconst (v := 0) hx hb dX11_moves_22 (by decide) ?_
    refine lv_istore_n (lv' := [(2, .int (0 : Int32)), (1, .int r18), (0, .ref h_t)]) hx hb dX11_moves_23 rfl hl (by decide) rfl (fun ls hl => ?_)
    obtain ⟨I24, m24, hI24, hB24⟩ := h
    have L24 : ∀ (x1 : Int32) (t_thrown : Int32) (t_f : Nat → Int32) (t_g : Nat → Int32) (t_queue : Nat → Int32) (I24 : Int32 → (Nat → Int32) → Prop) (m24 : Int32 → (Nat → Int32) → Nat), (∀ (x2 : Int32) (t_met : Nat → Int32), I24 x2 t_met → pX11_moves_24 t_n t_table K x1 t_thrown t_f t_g t_queue x2 t_met (fun x2' t_met' => I24 x2' t_met' ∧ m24 x2' t_met' < m24 x2 t_met)) → ∀ (n : Nat) (x2 : Int32) (t_met : Nat → Int32) (H : Heap) (locs : List Loc) (ls : Array Slot), I24 x2 t_met → m24 x2 t_met < n → va_P G vwCl (w_X11_moves Y h_t B_t t_thrown t_n t_modulus t_rows t_strands t_letters t_listedMany t_listN t_listWhat t_f t_g t_met t_queue t_table) H → va_D A (w_X11_moves Y h_t B_t t_thrown t_n t_modulus t_rows t_strands t_letters t_listedMany t_listN t_listWhat t_f t_g t_met t_queue t_table) → va_S A s.heap H locs → lv_has ls 6 [(0, .ref h_t), (1, .int x1), (2, .int x2)] → W p l e R s m args below meth c H locs 0 0 Q (F0 m 24 ls []) := by
      intro x1 t_thrown t_f t_g t_queue I24 m24 hB24 n
      induction n with
      | zero => intro x2 t_met H locs ls _ hm; exact absurd hm (Nat.not_lt_zero _)
      | succ n ih =>
        intro x2 t_met H locs ls hI hm hP hD hS hl
        obtain ⟨R24, h, rec24⟩ : ∃ R24 : Int32 → (Nat → Int32) → Prop, pX11_moves_24 t_n t_table K x1 t_thrown t_f t_g t_queue x2 t_met R24 ∧ ∀ (x2 : Int32) (t_met : Nat → Int32) (H : Heap) (locs : List Loc) (ls : Array Slot), R24 x2 t_met → va_P G vwCl (w_X11_moves Y h_t B_t t_thrown t_n t_modulus t_rows t_strands t_letters t_listedMany t_listN t_listWhat t_f t_g t_met t_queue t_table) H → va_D A (w_X11_moves Y h_t B_t t_thrown t_n t_modulus t_rows t_strands t_letters t_listedMany t_listN t_listWhat t_f t_g t_met t_queue t_table) → va_S A s.heap H locs → lv_has ls 6 [(0, .ref h_t), (1, .int x1), (2, .int x2)] → W p l e R s m args below meth c H locs 0 0 Q (F0 m 24 ls []) := ⟨_, hB24 x2 t_met hI, fun x2 t_met H locs ls hh hP hD hS hl => ih x2 t_met H locs ls hh.1 (Nat.lt_of_lt_of_le hh.2 (Nat.le_of_lt_succ hm)) hP hD hS hl⟩
        refine lv_iload_n hx hb dX11_moves_24 rfl (lv_at hl 2 rfl) ?_
        refine lv_iload_n hx hb dX11_moves_25 rfl (lv_at hl 1 rfl) ?_
        obtain ⟨ht, hf⟩ := h
        refine lv_icmp_ge (tgt := 42) hx hb dX11_moves_26 (by decide) (fun c9 => ?_) (fun c9 => ?_)
        · have h := ht c9
          refine lv_aload_n hx hb dX11_moves_42 rfl (lv_at hl 0 rfl) ?_
          refine va_get (D := G) (ci := 10) (v := .ref (B_t 14)) (C := RX11) (T := TX11) (N := 29) hx hb hts inX11 hown hK hP 0 rfl rfl 14 (by decide) hf48 (fun _ h9 => h9) rfl dX11_moves_43 ?_
          refine lv_iconst (v := 0) hx hb dX11_moves_46 (by decide) ?_
          refine lv_iconst (v := 1) hx hb dX11_moves_47 (by decide) ?_
          obtain ⟨hin, h⟩ := h
          refine va_zast hx hb hK hP hD hS 3 1 rfl rfl hin dX11_moves_48 (fun H locs hP hD hS => ?_)
          have hP : va_P G vwCl (w_X11_moves Y h_t B_t t_thrown t_n t_modulus t_rows t_strands t_letters t_listedMany t_listN t_listWhat t_f t_g (upd t_met (Int32.toNatClampNeg (0 : Int32)) (vp_nar .boolean (1 : Int32))) t_queue t_table) H := hP
          have hD : va_D A (w_X11_moves Y h_t B_t t_thrown t_n t_modulus t_rows t_strands t_letters t_listedMany t_listN t_listWhat t_f t_g (upd t_met (Int32.toNatClampNeg (0 : Int32)) (vp_nar .boolean (1 : Int32))) t_queue t_table) := hD
          refine lv_aload_n hx hb dX11_moves_49 rfl (lv_at hl 0 rfl) ?_
          refine va_get (D := G) (ci := 10) (v := .ref (B_t 15)) (C := RX11) (T := TX11) (N := 29) hx hb hts inX11 hown hK hP 0 rfl rfl 15 (by decide) hf52 (fun _ h9 => h9) rfl dX11_moves_50 ?_
          refine lv_iconst (v := 0) hx hb dX11_moves_53 (by decide) ?_
          refine lv_iconst (v := 0) hx hb dX11_moves_54 (by decide) ?_
          obtain ⟨hin, h⟩ := h
          refine va_iast hx hb hK hP hD hS 4 0 rfl rfl hin dX11_moves_55 (fun H locs hP hD hS => ?_)
          have hP : va_P G vwCl (w_X11_moves Y h_t B_t t_thrown t_n t_modulus t_rows t_strands t_letters t_listedMany t_listN t_listWhat t_f t_g (upd t_met (Int32.toNatClampNeg (0 : Int32)) (vp_nar .boolean (1 : Int32))) (upd t_queue (Int32.toNatClampNeg (0 : Int32)) (0 : Int32)) t_table) H := hP
          have hD : va_D A (w_X11_moves Y h_t B_t t_thrown t_n t_modulus t_rows t_strands t_letters t_listedMany t_listN t_listWhat t_f t_g (upd t_met (Int32.toNatClampNeg (0 : Int32)) (vp_nar .boolean (1 : Int32))) (upd t_queue (Int32.toNatClampNeg (0 : Int32)) (0 : Int32)) t_table) := hD
          refine lv_iconst (v := 1) hx hb dX11_moves_56 (by decide) ?_
          refine lv_istore_n (lv' := [(2, .int (1 : Int32)), (0, .ref h_t), (1, .int x1)]) hx hb dX11_moves_57 rfl hl (by decide) rfl (fun ls hl => ?_)
          refine lv_iconst (v := 0) hx hb dX11_moves_58 (by decide) ?_
          refine lv_istore_n (lv' := [(3, .int (0 : Int32)), (2, .int (1 : Int32)), (0, .ref h_t), (1, .int x1)]) hx hb dX11_moves_59 rfl hl (by decide) rfl (fun ls hl => ?_)
          obtain ⟨I60, m60, hI60, hB60⟩ := h
          have L60 : ∀ (t_thrown : Int32) (I60 : Int32 → Int32 → (Nat → Int32) → (Nat → Int32) → (Nat → Int32) → (Nat → Int32) → Prop) (m60 : Int32 → Int32 → (Nat → Int32) → (Nat → Int32) → (Nat → Int32) → (Nat → Int32) → Nat), (∀ (x2 : Int32) (x3 : Int32) (t_f : Nat → Int32) (t_g : Nat → Int32) (t_met : Nat → Int32) (t_queue : Nat → Int32), I60 x2 x3 t_f t_g t_met t_queue → pX11_moves_60 t_n t_table R24 K t_thrown x2 x3 t_f t_g t_met t_queue (fun x2' x3' t_f' t_g' t_met' t_queue' => I60 x2' x3' t_f' t_g' t_met' t_queue' ∧ m60 x2' x3' t_f' t_g' t_met' t_queue' < m60 x2 x3 t_f t_g t_met t_queue)) → ∀ (n : Nat) (x2 : Int32) (x3 : Int32) (t_f : Nat → Int32) (t_g : Nat → Int32) (t_met : Nat → Int32) (t_queue : Nat → Int32) (H : Heap) (locs : List Loc) (ls : Array Slot), I60 x2 x3 t_f t_g t_met t_queue → m60 x2 x3 t_f t_g t_met t_queue < n → va_P G vwCl (w_X11_moves Y h_t B_t t_thrown t_n t_modulus t_rows t_strands t_letters t_listedMany t_listN t_listWhat t_f t_g t_met t_queue t_table) H → va_D A (w_X11_moves Y h_t B_t t_thrown t_n t_modulus t_rows t_strands t_letters t_listedMany t_listN t_listWhat t_f t_g t_met t_queue t_table) → va_S A s.heap H locs → lv_has ls 6 [(0, .ref h_t), (2, .int x2), (3, .int x3)] → W p l e R s m args below meth c H locs 0 0 Q (F0 m 60 ls []) := by
            intro t_thrown I60 m60 hB60 n
            induction n with
            | zero => intro x2 x3 t_f t_g t_met t_queue H locs ls _ hm; exact absurd hm (Nat.not_lt_zero _)
            | succ n ih =>
              intro x2 x3 t_f t_g t_met t_queue H locs ls hI hm hP hD hS hl
              obtain ⟨R60, h, rec60⟩ : ∃ R60 : Int32 → Int32 → (Nat → Int32) → (Nat → Int32) → (Nat → Int32) → (Nat → Int32) → Prop, pX11_moves_60 t_n t_table R24 K t_thrown x2 x3 t_f t_g t_met t_queue R60 ∧ ∀ (x2 : Int32) (x3 : Int32) (t_f : Nat → Int32) (t_g : Nat → Int32) (t_met : Nat → Int32) (t_queue : Nat → Int32) (H : Heap) (locs : List Loc) (ls : Array Slot), R60 x2 x3 t_f t_g t_met t_queue → va_P G vwCl (w_X11_moves Y h_t B_t t_thrown t_n t_modulus t_rows t_strands t_letters t_listedMany t_listN t_listWhat t_f t_g t_met t_queue t_table) H → va_D A (w_X11_moves Y h_t B_t t_thrown t_n t_modulus t_rows t_strands t_letters t_listedMany t_listN t_listWhat t_f t_g t_met t_queue t_table) → va_S A s.heap H locs → lv_has ls 6 [(0, .ref h_t), (2, .int x2), (3, .int x3)] → W p l e R s m args below meth c H locs 0 0 Q (F0 m 60 ls []) := ⟨_, hB60 x2 x3 t_f t_g t_met t_queue hI, fun x2 x3 t_f t_g t_met t_queue H locs ls hh hP hD hS hl => ih x2 x3 t_f t_g t_met t_queue H locs ls hh.1 (Nat.lt_of_lt_of_le hh.2 (Nat.le_of_lt_succ hm)) hP hD hS hl⟩
              refine lv_iload_n hx hb dX11_moves_60 rfl (lv_at hl 2 rfl) ?_
              refine lv_iload_n hx hb dX11_moves_61 rfl (lv_at hl 1 rfl) ?_
              obtain ⟨ht, hf⟩ := h
              refine lv_icmp_ge (tgt := 186) hx hb dX11_moves_62 (by decide) (fun c9 => ?_) (fun c9 => ?_)
              · have h := ht c9
                refine lv_iload_n hx hb dX11_moves_186 rfl (lv_at hl 1 rfl) ?_
                exact hret x2 t_thrown t_f t_g t_met t_queue H locs ls _ hP hD hS h dX11_moves_187
              · have h := hf c9
                refine lv_aload_n hx hb dX11_moves_65 rfl (lv_at hl 0 rfl) ?_
                refine va_get (D := G) (ci := 10) (v := .int t_n) (C := RX11) (T := TX11) (N := 29) hx hb hts inX11 hown hK hP 0 rfl rfl 1 (by decide) hf9 (fun _ h9 => h9) rfl dX11_moves_66 ?_
                refine lv_aload_n hx hb dX11_moves_69 rfl (lv_at hl 0 rfl) ?_
                refine va_get (D := G) (ci := 10) (v := .ref (B_t 15)) (C := RX11) (T := TX11) (N := 29) hx hb hts inX11 hown hK hP 0 rfl rfl 15 (by decide) hf52 (fun _ h9 => h9) rfl dX11_moves_70 ?_
                refine lv_iload_n hx hb dX11_moves_73 rfl (lv_at hl 2 rfl) ?_
                obtain ⟨hin, h⟩ := h
                refine va_iald hx hb hK hP 4 0 rfl rfl hin dX11_moves_74 ?_
                refine lv_aload_n hx hb dX11_moves_75 rfl (lv_at hl 0 rfl) ?_
                refine va_get (D := G) (ci := 10) (v := .ref (B_t 5)) (C := RX11) (T := TX11) (N := 29) hx hb hts inX11 hown hK hP 0 rfl rfl 5 (by decide) hf23 (fun _ h9 => h9) rfl dX11_moves_76 ?_
                refine mc_vS ⟨hx, hb, hml, hown, hts⟩ hK hE hA hP hD hS (c_X11_permutation l G Y tF H.size (B_t 5) 8 t_f t_n (t_queue (Int32.toNatClampNeg x3)) h) (va_cwS 3 hts gX11_moves_X11_permutation rfl rfl rfl (by decide +kernel) ⟨Nat.le_trans (by decide) hRf, Nat.le_trans (by decide) hRl⟩) (fun u => (w_X11_moves Y h_t B_t t_thrown t_n t_modulus t_rows t_strands t_letters t_listedMany t_listN t_listWhat u t_g t_met t_queue t_table)) [1] [0, 2, 3, 4, 5] [0, 5, 1, 2, 3, 4] rfl rfl rfl rfl (by decide) (fun _ => rfl) rfl rfl hl.1 rfl (Nat.le_of_ble_eq_true rfl) dX11_moves_79 (fun u H locs h hP hD hS => ?_)
                obtain ⟨t_f_79, rfl⟩ : ∃ z, z = u := ⟨_, rfl⟩
                try dsimp only at h
                have hP : va_P G vwCl (w_X11_moves Y h_t B_t t_thrown t_n t_modulus t_rows t_strands t_letters t_listedMany t_listN t_listWhat t_f_79 t_g t_met t_queue t_table) H := hP
                have hD : va_D A (w_X11_moves Y h_t B_t t_thrown t_n t_modulus t_rows t_strands t_letters t_listedMany t_listN t_listWhat t_f_79 t_g t_met t_queue t_table) := hD
                refine lv_iconst (v := 0) hx hb dX11_moves_82 (by decide) ?_
                refine lv_istore (lv' := [(4, .int (0 : Int32)), (0, .ref h_t), (2, .int x2), (3, .int x3)]) hx hb dX11_moves_83 hl (by decide) rfl (fun ls hl => ?_)
                obtain ⟨I85, m85, hI85, hB85⟩ := h
                have L85 : ∀ (x3 : Int32) (t_f : Nat → Int32) (I85 : Int32 → Int32 → (Nat → Int32) → (Nat → Int32) → (Nat → Int32) → Prop) (m85 : Int32 → Int32 → (Nat → Int32) → (Nat → Int32) → (Nat → Int32) → Nat), (∀ (x2 : Int32) (x4 : Int32) (t_g : Nat → Int32) (t_met : Nat → Int32) (t_queue : Nat → Int32), I85 x2 x4 t_g t_met t_queue → pX11_moves_85 t_n t_table R60 K t_thrown x3 t_f x2 x4 t_g t_met t_queue (fun x2' x4' t_g' t_met' t_queue' => I85 x2' x4' t_g' t_met' t_queue' ∧ m85 x2' x4' t_g' t_met' t_queue' < m85 x2 x4 t_g t_met t_queue)) → ∀ (n : Nat) (x2 : Int32) (x4 : Int32) (t_g : Nat → Int32) (t_met : Nat → Int32) (t_queue : Nat → Int32) (H : Heap) (locs : List Loc) (ls : Array Slot), I85 x2 x4 t_g t_met t_queue → m85 x2 x4 t_g t_met t_queue < n → va_P G vwCl (w_X11_moves Y h_t B_t t_thrown t_n t_modulus t_rows t_strands t_letters t_listedMany t_listN t_listWhat t_f t_g t_met t_queue t_table) H → va_D A (w_X11_moves Y h_t B_t t_thrown t_n t_modulus t_rows t_strands t_letters t_listedMany t_listN t_listWhat t_f t_g t_met t_queue t_table) → va_S A s.heap H locs → lv_has ls 6 [(0, .ref h_t), (2, .int x2), (3, .int x3), (4, .int x4)] → W p l e R s m args below meth c H locs 0 0 Q (F0 m 85 ls []) := by
                  intro x3 t_f I85 m85 hB85 n
                  induction n with
                  | zero => intro x2 x4 t_g t_met t_queue H locs ls _ hm; exact absurd hm (Nat.not_lt_zero _)
                  | succ n ih =>
                    intro x2 x4 t_g t_met t_queue H locs ls hI hm hP hD hS hl
                    obtain ⟨R85, h, rec85⟩ : ∃ R85 : Int32 → Int32 → (Nat → Int32) → (Nat → Int32) → (Nat → Int32) → Prop, pX11_moves_85 t_n t_table R60 K t_thrown x3 t_f x2 x4 t_g t_met t_queue R85 ∧ ∀ (x2 : Int32) (x4 : Int32) (t_g : Nat → Int32) (t_met : Nat → Int32) (t_queue : Nat → Int32) (H : Heap) (locs : List Loc) (ls : Array Slot), R85 x2 x4 t_g t_met t_queue → va_P G vwCl (w_X11_moves Y h_t B_t t_thrown t_n t_modulus t_rows t_strands t_letters t_listedMany t_listN t_listWhat t_f t_g t_met t_queue t_table) H → va_D A (w_X11_moves Y h_t B_t t_thrown t_n t_modulus t_rows t_strands t_letters t_listedMany t_listN t_listWhat t_f t_g t_met t_queue t_table) → va_S A s.heap H locs → lv_has ls 6 [(0, .ref h_t), (2, .int x2), (3, .int x3), (4, .int x4)] → W p l e R s m args below meth c H locs 0 0 Q (F0 m 85 ls []) := ⟨_, hB85 x2 x4 t_g t_met t_queue hI, fun x2 x4 t_g t_met t_queue H locs ls hh hP hD hS hl => ih x2 x4 t_g t_met t_queue H locs ls hh.1 (Nat.lt_of_lt_of_le hh.2 (Nat.le_of_lt_succ hm)) hP hD hS hl⟩
                    refine lv_iload hx hb dX11_moves_85 (lv_at hl 3 rfl) ?_
                    refine lv_aload_n hx hb dX11_moves_87 rfl (lv_at hl 0 rfl) ?_
                    refine va_get (D := G) (ci := 10) (v := .int t_n) (C := RX11) (T := TX11) (N := 29) hx hb hts inX11 hown hK hP 0 rfl rfl 1 (by decide) hf9 (fun _ h9 => h9) rfl dX11_moves_88 ?_
                    obtain ⟨ht, hf⟩ := h
                    refine lv_icmp_ge (tgt := 180) hx hb dX11_moves_91 (by decide) (fun c9 => ?_) (fun c9 => ?_)
                    · have h := ht c9
                      refine lv_iinc (v := (x3 + 1)) (lv' := [(3, .int (x3 + 1)), (0, .ref h_t), (2, .int x2), (4, .int x4)]) hx hb dX11_moves_180 hl (k := 2) rfl rfl (by decide) rfl (fun ls hl => ?_)
                      refine lv_goto (tgt := 60) hx hb dX11_moves_183 (by decide) ?_
                      exact rec60 x2 (x3 + 1) t_f t_g t_met t_queue H locs ls h hP hD hS (lv_sub hl [1, 2, 0] rfl)
                    · have h := hf c9
                      refine lv_iconst (v := 0) hx hb dX11_moves_94 (by decide) ?_
                      refine lv_istore (lv' := [(5, .int (0 : Int32)), (0, .ref h_t), (2, .int x2), (3, .int x3), (4, .int x4)]) hx hb dX11_moves_95 hl (by decide) rfl (fun ls hl => ?_)
                      obtain ⟨I97, m97, hI97, hB97⟩ := h
                      have L97 : ∀ (x2 : Int32) (x4 : Int32) (t_met : Nat → Int32) (t_queue : Nat → Int32) (I97 : Int32 → (Nat → Int32) → Prop) (m97 : Int32 → (Nat → Int32) → Nat), (∀ (x5 : Int32) (t_g : Nat → Int32), I97 x5 t_g → pX11_moves_97 t_n t_table R60 R85 K t_thrown x3 t_f x2 x4 t_met t_queue x5 t_g (fun x5' t_g' => I97 x5' t_g' ∧ m97 x5' t_g' < m97 x5 t_g)) → ∀ (n : Nat) (x5 : Int32) (t_g : Nat → Int32) (H : Heap) (locs : List Loc) (ls : Array Slot), I97 x5 t_g → m97 x5 t_g < n → va_P G vwCl (w_X11_moves Y h_t B_t t_thrown t_n t_modulus t_rows t_strands t_letters t_listedMany t_listN t_listWhat t_f t_g t_met t_queue t_table) H → va_D A (w_X11_moves Y h_t B_t t_thrown t_n t_modulus t_rows t_strands t_letters t_listedMany t_listN t_listWhat t_f t_g t_met t_queue t_table) → va_S A s.heap H locs → lv_has ls 6 [(0, .ref h_t), (2, .int x2), (3, .int x3), (4, .int x4), (5, .int x5)] → W p l e R s m args below meth c H locs 0 0 Q (F0 m 97 ls []) := by
                        intro x2 x4 t_met t_queue I97 m97 hB97 n
                        induction n with
                        | zero => intro x5 t_g H locs ls _ hm; exact absurd hm (Nat.not_lt_zero _)
                        | succ n ih =>
                          intro x5 t_g H locs ls hI hm hP hD hS hl
                          obtain ⟨R97, h, rec97⟩ : ∃ R97 : Int32 → (Nat → Int32) → Prop, pX11_moves_97 t_n t_table R60 R85 K t_thrown x3 t_f x2 x4 t_met t_queue x5 t_g R97 ∧ ∀ (x5 : Int32) (t_g : Nat → Int32) (H : Heap) (locs : List Loc) (ls : Array Slot), R97 x5 t_g → va_P G vwCl (w_X11_moves Y h_t B_t t_thrown t_n t_modulus t_rows t_strands t_letters t_listedMany t_listN t_listWhat t_f t_g t_met t_queue t_table) H → va_D A (w_X11_moves Y h_t B_t t_thrown t_n t_modulus t_rows t_strands t_letters t_listedMany t_listN t_listWhat t_f t_g t_met t_queue t_table) → va_S A s.heap H locs → lv_has ls 6 [(0, .ref h_t), (2, .int x2), (3, .int x3), (4, .int x4), (5, .int x5)] → W p l e R s m args below meth c H locs 0 0 Q (F0 m 97 ls []) := ⟨_, hB97 x5 t_g hI, fun x5 t_g H locs ls hh hP hD hS hl => ih x5 t_g H locs ls hh.1 (Nat.lt_of_lt_of_le hh.2 (Nat.le_of_lt_succ hm)) hP hD hS hl⟩
                          refine lv_iload hx hb dX11_moves_97 (lv_at hl 4 rfl) ?_
                          refine lv_aload_n hx hb dX11_moves_99 rfl (lv_at hl 0 rfl) ?_
                          refine va_get (D := G) (ci := 10) (v := .int t_n) (C := RX11) (T := TX11) (N := 29) hx hb hts inX11 hown hK hP 0 rfl rfl 1 (by decide) hf9 (fun _ h9 => h9) rfl dX11_moves_100 ?_
                          obtain ⟨ht, hf⟩ := h
                          refine lv_icmp_ge (tgt := 132) hx hb dX11_moves_103 (by decide) (fun c9 => ?_) (fun c9 => ?_)
                          · have h := ht c9
                            refine lv_aload_n hx hb dX11_moves_132 rfl (lv_at hl 0 rfl) ?_
                            refine va_get (D := G) (ci := 10) (v := .int t_n) (C := RX11) (T := TX11) (N := 29) hx hb hts inX11 hown hK hP 0 rfl rfl 1 (by decide) hf9 (fun _ h9 => h9) rfl dX11_moves_133 ?_
                            refine lv_aload_n hx hb dX11_moves_136 rfl (lv_at hl 0 rfl) ?_
                            refine va_get (D := G) (ci := 10) (v := .ref (B_t 6)) (C := RX11) (T := TX11) (N := 29) hx hb hts inX11 hown hK hP 0 rfl rfl 6 (by decide) hf26 (fun _ h9 => h9) rfl dX11_moves_137 ?_
                            refine mc_iS ⟨hx, hb, hml, hown, hts⟩ hK hE hA hP hD hS (c_X11_numberOf l G Y tF H.size (B_t 6) 8 t_g t_n h) (va_cwS 2 hts gX11_moves_X11_numberOf rfl rfl rfl (by decide +kernel) ⟨Nat.le_trans (by decide) hRf, Nat.le_trans (by decide) hRl⟩) (fun u => (w_X11_moves Y h_t B_t t_thrown t_n t_modulus t_rows t_strands t_letters t_listedMany t_listN t_listWhat t_f t_g t_met t_queue t_table)) [2] [0, 1, 3, 4, 5] [0, 1, 5, 2, 3, 4] rfl rfl rfl rfl (by decide) (fun _ => rfl) rfl rfl hl.1 rfl (Nat.le_of_ble_eq_true rfl) dX11_moves_140 (fun r140 u H locs h hP hD hS => ?_)
                            try dsimp only at h
                            have hP : va_P G vwCl (w_X11_moves Y h_t B_t t_thrown t_n t_modulus t_rows t_strands t_letters t_listedMany t_listN t_listWhat t_f t_g t_met t_queue t_table) H := hP
                            have hD : va_D A (w_X11_moves Y h_t B_t t_thrown t_n t_modulus t_rows t_strands t_letters t_listedMany t_listN t_listWhat t_f t_g t_met t_queue t_table) := hD
                            refine lv_istore (lv' := [(5, .int r140), (0, .ref h_t), (2, .int x2), (3, .int x3), (4, .int x4)]) hx hb dX11_moves_143 hl (by decide) rfl (fun ls hl => ?_)
                            refine lv_aload_n hx hb dX11_moves_145 rfl (lv_at hl 1 rfl) ?_
                            refine va_get (D := G) (ci := 10) (v := .ref (B_t 14)) (C := RX11) (T := TX11) (N := 29) hx hb hts inX11 hown hK hP 0 rfl rfl 14 (by decide) hf48 (fun _ h9 => h9) rfl dX11_moves_146 ?_
                            refine lv_iload hx hb dX11_moves_149 (lv_at hl 0 rfl) ?_
                            obtain ⟨hin, h⟩ := h
                            refine va_zald hx hb hK hP 3 1 rfl rfl hin dX11_moves_151 ?_
                            obtain ⟨ht, hf⟩ := h
                            refine lv_if_ne (tgt := 174) hx hb dX11_moves_152 (by decide) (fun c9 => ?_) (fun c9 => ?_)
                            · have h := ht c9
                              refine lv_iinc (v := (x4 + 1)) (lv' := [(4, .int (x4 + 1)), (5, .int r140), (0, .ref h_t), (2, .int x2), (3, .int x3)]) hx hb dX11_moves_174 hl (k := 4) rfl rfl (by decide) rfl (fun ls hl => ?_)
                              refine lv_goto (tgt := 85) hx hb dX11_moves_177 (by decide) ?_
                              exact rec85 x2 (x4 + 1) t_g t_met t_queue H locs ls h hP hD hS (lv_sub hl [2, 3, 4, 0] rfl)
                            · have h := hf c9
                              refine lv_aload_n hx hb dX11_moves_155 rfl (lv_at hl 1 rfl) ?_
                              refine va_get (D := G) (ci := 10) (v := .ref (B_t 14)) (C := RX11) (T := TX11) (N := 29) hx hb hts inX11 hown hK hP 0 rfl rfl 14 (by decide) hf48 (fun _ h9 => h9) rfl dX11_moves_156 ?_
                              refine lv_iload hx hb dX11_moves_159 (lv_at hl 0 rfl) ?_
                              refine lv_iconst (v := 1) hx hb dX11_moves_161 (by decide) ?_
                              obtain ⟨hin, h⟩ := h
                              refine va_zast hx hb hK hP hD hS 3 1 rfl rfl hin dX11_moves_162 (fun H locs hP hD hS => ?_)
                              have hP : va_P G vwCl (w_X11_moves Y h_t B_t t_thrown t_n t_modulus t_rows t_strands t_letters t_listedMany t_listN t_listWhat t_f t_g (upd t_met (Int32.toNatClampNeg r140) (vp_nar .boolean (1 : Int32))) t_queue t_table) H := hP
                              have hD : va_D A (w_X11_moves Y h_t B_t t_thrown t_n t_modulus t_rows t_strands t_letters t_listedMany t_listN t_listWhat t_f t_g (upd t_met (Int32.toNatClampNeg r140) (vp_nar .boolean (1 : Int32))) t_queue t_table) := hD
                              refine lv_aload_n hx hb dX11_moves_163 rfl (lv_at hl 1 rfl) ?_
                              refine va_get (D := G) (ci := 10) (v := .ref (B_t 15)) (C := RX11) (T := TX11) (N := 29) hx hb hts inX11 hown hK hP 0 rfl rfl 15 (by decide) hf52 (fun _ h9 => h9) rfl dX11_moves_164 ?_
                              refine lv_iload_n hx hb dX11_moves_167 rfl (lv_at hl 2 rfl) ?_
                              refine lv_iload hx hb dX11_moves_168 (lv_at hl 0 rfl) ?_
                              obtain ⟨hin, h⟩ := h
                              refine va_iast hx hb hK hP hD hS 4 0 rfl rfl hin dX11_moves_170 (fun H locs hP hD hS => ?_)
                              have hP : va_P G vwCl (w_X11_moves Y h_t B_t t_thrown t_n t_modulus t_rows t_strands t_letters t_listedMany t_listN t_listWhat t_f t_g (upd t_met (Int32.toNatClampNeg r140) (vp_nar .boolean (1 : Int32))) (upd t_queue (Int32.toNatClampNeg x2) r140) t_table) H := hP
                              have hD : va_D A (w_X11_moves Y h_t B_t t_thrown t_n t_modulus t_rows t_strands t_letters t_listedMany t_listN t_listWhat t_f t_g (upd t_met (Int32.toNatClampNeg r140) (vp_nar .boolean (1 : Int32))) (upd t_queue (Int32.toNatClampNeg x2) r140) t_table) := hD
                              refine lv_iinc (v := (x2 + 1)) (lv' := [(2, .int (x2 + 1)), (5, .int r140), (0, .ref h_t), (3, .int x3), (4, .int x4)]) hx hb dX11_moves_171 hl (k := 2) rfl rfl (by decide) rfl (fun ls hl => ?_)
                              refine lv_iinc (v := (x4 + 1)) (lv' := [(4, .int (x4 + 1)), (2, .int (x2 + 1)), (5, .int r140), (0, .ref h_t), (3, .int x3)]) hx hb dX11_moves_174 hl (k := 4) rfl rfl (by decide) rfl (fun ls hl => ?_)
                              refine lv_goto (tgt := 85) hx hb dX11_moves_177 (by decide) ?_
                              exact rec85 (x2 + 1) (x4 + 1) t_g (upd t_met (Int32.toNatClampNeg r140) (vp_nar .boolean (1 : Int32))) (upd t_queue (Int32.toNatClampNeg x2) r140) H locs ls h hP hD hS (lv_sub hl [3, 1, 4, 0] rfl)
                          · have h := hf c9
                            refine lv_aload_n hx hb dX11_moves_106 rfl (lv_at hl 0 rfl) ?_
                            refine va_get (D := G) (ci := 10) (v := .ref (B_t 6)) (C := RX11) (T := TX11) (N := 29) hx hb hts inX11 hown hK hP 0 rfl rfl 6 (by decide) hf26 (fun _ h9 => h9) rfl dX11_moves_107 ?_
                            refine lv_iload hx hb dX11_moves_110 (lv_at hl 4 rfl) ?_
                            refine lv_aload_n hx hb dX11_moves_112 rfl (lv_at hl 0 rfl) ?_
                            refine lv_iload hx hb dX11_moves_113 (lv_at hl 3 rfl) ?_
                            refine lv_aload_n hx hb dX11_moves_115 rfl (lv_at hl 0 rfl) ?_
                            refine va_get (D := G) (ci := 10) (v := .ref (B_t 5)) (C := RX11) (T := TX11) (N := 29) hx hb hts inX11 hown hK hP 0 rfl rfl 5 (by decide) hf23 (fun _ h9 => h9) rfl dX11_moves_116 ?_
                            refine lv_iload hx hb dX11_moves_119 (lv_at hl 4 rfl) ?_
                            obtain ⟨hin, h⟩ := h
                            refine va_iald hx hb hK hP 1 0 rfl rfl hin dX11_moves_121 ?_
                            refine mc_iV ⟨hx, hb, hml, hown, hts⟩ hK hE hA hP hD hS (c_X11_by l G Y tF H.size h_t B_t t_thrown t_n t_modulus t_rows t_strands t_letters t_listedMany t_listN t_listWhat t_table x4 (t_f (Int32.toNatClampNeg x5)) h) (cwV 2 hts gX11_moves_X11_by rfl rfl rfl (by decide +kernel) ⟨Nat.le_trans (by decide) hRf, Nat.le_trans (by decide) hRl⟩) (fun u => (w_X11_moves Y h_t B_t t_thrown t_n t_modulus t_rows t_strands t_letters t_listedMany t_listN t_listWhat t_f t_g t_met t_queue t_table)) [0, 5] [1, 2, 3, 4] [4, 0, 1, 2, 3, 5] rfl rfl rfl rfl (by decide) (fun _ => rfl) rfl 0 10 rfl rfl rfl rfl hl.1 rfl (Nat.le_of_ble_eq_true rfl) dX11_moves_122 (fun r122 u H locs h hP hD hS => ?_)
                            try dsimp only at h
                            have hP : va_P G vwCl (w_X11_moves Y h_t B_t t_thrown t_n t_modulus t_rows t_strands t_letters t_listedMany t_listN t_listWhat t_f t_g t_met t_queue t_table) H := hP
                            have hD : va_D A (w_X11_moves Y h_t B_t t_thrown t_n t_modulus t_rows t_strands t_letters t_listedMany t_listN t_listWhat t_f t_g t_met t_queue t_table) := hD
                            obtain ⟨hin, h⟩ := h
                            refine va_iast hx hb hK hP hD hS 2 0 rfl rfl hin dX11_moves_125 (fun H locs hP hD hS => ?_)
                            have hP : va_P G vwCl (w_X11_moves Y h_t B_t t_thrown t_n t_modulus t_rows t_strands t_letters t_listedMany t_listN t_listWhat t_f (upd t_g (Int32.toNatClampNeg x5) r122) t_met t_queue t_table) H := hP
                            have hD : va_D A (w_X11_moves Y h_t B_t t_thrown t_n t_modulus t_rows t_strands t_letters t_listedMany t_listN t_listWhat t_f (upd t_g (Int32.toNatClampNeg x5) r122) t_met t_queue t_table) := hD
                            refine lv_iinc (v := (x5 + 1)) (lv' := [(5, .int (x5 + 1)), (0, .ref h_t), (2, .int x2), (3, .int x3), (4, .int x4)]) hx hb dX11_moves_126 hl (k := 4) rfl rfl (by decide) rfl (fun ls hl => ?_)
                            refine lv_goto (tgt := 97) hx hb dX11_moves_129 (by decide) ?_
                            exact rec97 (x5 + 1) (upd t_g (Int32.toNatClampNeg x5) r122) H locs ls h hP hD hS (lv_sub hl [1, 2, 3, 4, 0] rfl)
                      exact L97 x2 x4 t_met t_queue I97 m97 hB97 _ (0 : Int32) t_g H locs ls hI97 (Nat.lt_succ_self _) hP hD hS (lv_sub hl [1, 2, 3, 4, 0] rfl)
                exact L85 x3 t_f_79 I85 m85 hB85 _ x2 (0 : Int32) t_g t_met t_queue H locs ls hI85 (Nat.lt_succ_self _) hP hD hS (lv_sub hl [1, 2, 3, 0] rfl)
          exact L60 t_thrown I60 m60 hB60 _ (1 : Int32) (0 : Int32) t_f t_g (upd t_met (Int32.toNatClampNeg (0 : Int32)) (vp_nar .boolean (1 : Int32))) (upd t_queue (Int32.toNatClampNeg (0 : Int32)) (0 : Int32)) H locs ls hI60 (Nat.lt_succ_self _) hP hD hS (lv_sub hl [2, 1, 0] rfl)
        · have h := hf c9
          refine lv_aload_n hx hb dX11_moves_29 rfl (lv_at hl 0 rfl) ?_
          refine va_get (D := G) (ci := 10) (v := .ref (B_t 14)) (C := RX11) (T := TX11) (N := 29) hx hb hts inX11 hown hK hP 0 rfl rfl 14 (by decide) hf48 (fun _ h9 => h9) rfl dX11_moves_30 ?_
          refine lv_iload_n hx hb dX11_moves_33 rfl (lv_at hl 2 rfl) ?_
          refine lv_iconst (v := 0) hx hb dX11_moves_34 (by decide) ?_
          obtain ⟨hin, h⟩ := h
          refine va_zast hx hb hK hP hD hS 3 1 rfl rfl hin dX11_moves_35 (fun H locs hP hD hS => ?_)
          have hP : va_P G vwCl (w_X11_moves Y h_t B_t t_thrown t_n t_modulus t_rows t_strands t_letters t_listedMany t_listN t_listWhat t_f t_g (upd t_met (Int32.toNatClampNeg x2) (vp_nar .boolean (0 : Int32))) t_queue t_table) H := hP
          have hD : va_D A (w_X11_moves Y h_t B_t t_thrown t_n t_modulus t_rows t_strands t_letters t_listedMany t_listN t_listWhat t_f t_g (upd t_met (Int32.toNatClampNeg x2) (vp_nar .boolean (0 : Int32))) t_queue t_table) := hD
          refine lv_iinc (v := (x2 + 1)) (lv' := [(2, .int (x2 + 1)), (0, .ref h_t), (1, .int x1)]) hx hb dX11_moves_36 hl (k := 2) rfl rfl (by decide) rfl (fun ls hl => ?_)
          refine lv_goto (tgt := 24) hx hb dX11_moves_39 (by decide) ?_
          exact rec24 (x2 + 1) (upd t_met (Int32.toNatClampNeg x2) (vp_nar .boolean (0 : Int32))) H locs ls h hP hD hS (lv_sub hl [1, 2, 0] rfl)
    exact L24 r18 (0 : Int32) t_f t_g t_queue I24 m24 hB24 _ (0 : Int32) t_met H locs ls hI24 (Nat.lt_succ_self _) hP hD hS (lv_sub hl [2, 1, 0] rfl)
  · have h := hf c9
    refine lv_iconst (v := -1) hx hb dX11_moves_12 (by decide) ?_
    exact hret (-1 : Int32) (0 : Int32) t_f t_g t_met t_queue H locs ls _ hP hD hS h dX11_moves_13

set_option maxHeartbeats 20000000 in
set_option maxRecDepth 100000 in
theorem c_X11_moves (l : Launch) (G : va_G) (Y : Nat → ClassId) (tF sz : Nat) (h_t : Nat) (B_t : Nat → Nat) (t_thrown : Int32) (t_n : Int32) (t_modulus : Int32) (t_rows : Int32) (t_strands : Int32) (t_letters : Int32) (t_listedMany : Int32) (t_listN : Int32) (t_listWhat : Int32) (t_f : Nat → Int32) (t_g : Nat → Int32) (t_met : Nat → Int32) (t_queue : Nat → Int32) (t_table : Nat → Int32) {K : Int32 → Int32 → (Nat → Int32) → (Nat → Int32) → (Nat → Int32) → (Nat → Int32) → Prop} (h : pX11_moves t_thrown t_n t_f t_g t_met t_queue t_table K) : Met l yX11_moves wsX11_moves ({ frames := 12, cells := 0, slots := 0, locals := 248 }) (PcM G Y tF sz (w_X11_moves Y h_t B_t t_thrown t_n t_modulus t_rows t_strands t_letters t_listedMany t_listN t_listWhat t_f t_g t_met t_queue t_table) [.ref h_t]) (va_Qi (fun (r : Int32) (u : Int32 × (Nat → Int32) × (Nat → Int32) × (Nat → Int32) × (Nat → Int32)) => K r u.1 u.2.1 u.2.2.1 u.2.2.2.1 u.2.2.2.2) (fun u t => BM G Y (va_A (w_X11_moves Y h_t B_t t_thrown t_n t_modulus t_rows t_strands t_letters t_listedMany t_listN t_listWhat t_f t_g t_met t_queue t_table) sz) (w_X11_moves Y h_t B_t u.1 t_n t_modulus t_rows t_strands t_letters t_listedMany t_listN t_listWhat u.2.1 u.2.2.1 u.2.2.2.1 u.2.2.2.2 t_table) t) (va_A (w_X11_moves Y h_t B_t t_thrown t_n t_modulus t_rows t_strands t_letters t_listedMany t_listN t_listWhat t_f t_g t_met t_queue t_table) sz)) 0 0 (va_A (w_X11_moves Y h_t B_t t_thrown t_n t_modulus t_rows t_strands t_letters t_listedMany t_listN t_listWhat t_f t_g t_met t_queue t_table) sz) := by
  refine Met.ofW (cc := cX11_moves) (maxL := 6) (ret := (some .int)) (by decide +kernel) rfl ?_
  intro p e s m args below meth c s₁ B hml hv
  obtain ⟨rfl, hsz, hP, hK, hD0, hE⟩ := hv
  have hts := atoms_spec (ws := wsX11_moves) B.pre
  have hown : s.vm.findClass RX11 = some m.cls := findClass_of_methodNamed B.named
  have hlocks := B.notSynchronized
  subst hsz
  have hD := hD0.self (sz := s.heap.size)
  exact wk_X11_moves h_t B_t t_thrown t_n t_modulus t_rows t_strands t_letters t_listedMany t_listN t_listWhat t_f t_g t_met t_queue t_table B.exec B.bytes hml hown hts hK hE (fun q h => Or.inr h) (Nat.le_refl _) (Nat.le_refl _) (fun r t_thrown t_f t_g t_met t_queue H locs ls pc hP hD hS hk hd => W.iret (v := r) B.exec B.bytes B.returns (fun t ht hW => ⟨⟨r, (t_thrown, t_f, t_g, t_met, t_queue), rfl, hk, by rw [ht]; exact hP, va_K.moved hW.alike hK, hD⟩, hS.F ht⟩) hS.2.2 hd) hP hD h

abbrev w_X11_makes (Y : Nat → ClassId) (h_t : Nat) (h_p1 : Nat) (B_t : Nat → Nat) (N_p1 : Nat) (t_thrown : Int32) (t_n : Int32) (t_modulus : Int32) (t_rows : Int32) (t_strands : Int32) (t_letters : Int32) (t_listedMany : Int32) (t_listN : Int32) (t_listWhat : Int32) (t_f : Nat → Int32) (t_table : Nat → Int32) (p1 : Nat → Int32) : va_W := [(h_t, .inr (10, [.int t_thrown, .int t_n, .ref (B_t 2), .int t_modulus, .ref (B_t 4), .ref (B_t 5), .ref (B_t 6), .ref (B_t 7), .ref (B_t 8), .ref (B_t 9), .ref (B_t 10), .int t_rows, .ref (B_t 12), .ref (B_t 13), .ref (B_t 14), .ref (B_t 15), .ref (B_t 16), .ref (B_t 17), .ref (B_t 18), .ref (B_t 19), .int t_strands, .int t_letters, .ref (B_t 22), .ref (B_t 23), .ref (B_t 24), .ref (B_t 25), .int t_listedMany, .int t_listN, .int t_listWhat])), ((B_t 5), .inl (Y 0, 8, .inl t_f)), ((B_t 2), .inl (Y 0, 64, .inl t_table)), (h_p1, .inl (Y 0, N_p1, .inl p1))]

set_option maxHeartbeats 20000000 in
set_option maxRecDepth 100000 in
theorem wk_X11_makes {p : Program} {l : Launch} {e : Env} {R : Room} {s : State} {m : MethodId} {args : Array Value} {below : List Frame} {meth : Method} {c : Code} {Q : State → Prop} {G : va_G} {Y : Nat → ClassId} {tF : Nat} {A : Nat → Prop} (h_t : Nat) (h_p1 : Nat) (B_t : Nat → Nat) (N_p1 : Nat) (t_thrown : Int32) (t_n : Int32) (t_modulus : Int32) (t_rows : Int32) (t_strands : Int32) (t_letters : Int32) (t_listedMany : Int32) (t_listN : Int32) (t_listWhat : Int32) (t_f : Nat → Int32) (t_table : Nat → Int32) (p1 : Nat → Int32) (x2 : Int32) {K : Int32 → Prop} (hx : p.tables.exec = Jvm.exec) (hb : c.code = cX11_makes) (hml : c.maxLocals = 5) (hown : s.vm.findClass RX11 = some m.cls) (hts : ∀ w ∈ wsX11_makes, w.before args s = true) (hK : va_K G vwCl (tyL Y) s) (hE : Ev A tF s) (hA : ∀ q, s.heap.size ≤ q → A q) (hRf : 1 ≤ R.frames) (hRl : 22 ≤ R.locals) (hret : ∀ (r : Int32)  (H : Heap) (locs : List Loc) (ls : Array Slot) (pc : Nat), va_P G vwCl (w_X11_makes Y h_t h_p1 B_t N_p1 t_thrown t_n t_modulus t_rows t_strands t_letters t_listedMany t_listN t_listWhat t_f t_table p1) H → va_D A (w_X11_makes Y h_t h_p1 B_t N_p1 t_thrown t_n t_modulus t_rows t_strands t_letters t_listedMany t_listN t_listWhat t_f t_table p1) → va_S A s.heap H locs → zb r → K r → decode cX11_makes pc = .ok (.ireturn, 1) → W p l e R s m args below meth c H locs 0 0 Q (F0 m pc ls [.int r])) (hP : va_P G vwCl (w_X11_makes Y h_t h_p1 B_t N_p1 t_thrown t_n t_modulus t_rows t_strands t_letters t_listedMany t_listN t_listWhat t_f t_table p1) s.heap) (hD : va_D A (w_X11_makes Y h_t h_p1 B_t N_p1 t_thrown t_n t_modulus t_rows t_strands t_letters t_listedMany t_listN t_listWhat t_f t_table p1)) (h : pX11_makes N_p1 t_n t_f t_table p1 x2 K) : W p l e R s m args below meth c s.heap [] 0 0 Q (entryFrame m ([.ref h_t, .ref h_p1, .int x2] : List Value).toArray 5) := by
  have inX11 : ∀ w ∈ u_ws RX11 TX11 29, w ∈ wsX11_makes := by decide +kernel
  have hf23 := hts (.fieldLink RX11 23 "RackBenchModel" "f" "[I") (by decide +kernel)
  have hf9 := hts (.fieldLink RX11 9 "RackBenchModel" "n" "I") (by decide +kernel)
  have hl := lv_entry ([.ref h_t, .ref h_p1, .int x2]) (n := 5) (Nat.le_of_ble_eq_true rfl)
  rw [lg_entry_eq]
  generalize (lg_sl ([.ref h_t, .ref h_p1, .int x2]) ++ List.replicate (5 - (lg_sl ([.ref h_t, .ref h_p1, .int x2])).length) Slot.unset).toArray = ls at hl ⊢
  have hl : lv_has ls 5 [(0, .ref h_t), (1, .ref h_p1), (2, .int x2)] := hl
  generalize hH0 : s.heap = H at hP ⊢
  have hS : va_S A s.heap H [] := by rw [← hH0]; exact va_S.rf
  clear hH0
  generalize ([] : List Loc) = locs at hS ⊢
  refine lv_iconst (v := 0) hx hb dX11_makes_0 (by decide) ?_
  refine lv_istore_n (lv' := [(3, .int (0 : Int32)), (0, .ref h_t), (1, .ref h_p1), (2, .int x2)]) hx hb dX11_makes_1 rfl hl (by decide) rfl (fun ls hl => ?_)
  obtain ⟨I2, m2, hI2, hB2⟩ := h
  have L2 : ∀ (x2 : Int32) (I2 : Int32 → Prop) (m2 : Int32 → Nat), (∀ (x3 : Int32), I2 x3 → pX11_makes_2 N_p1 t_n t_f t_table p1 K x2 x3 (fun x3' => I2 x3' ∧ m2 x3' < m2 x3)) → ∀ (n : Nat) (x3 : Int32) (H : Heap) (locs : List Loc) (ls : Array Slot), I2 x3 → m2 x3 < n → va_P G vwCl (w_X11_makes Y h_t h_p1 B_t N_p1 t_thrown t_n t_modulus t_rows t_strands t_letters t_listedMany t_listN t_listWhat t_f t_table p1) H → va_D A (w_X11_makes Y h_t h_p1 B_t N_p1 t_thrown t_n t_modulus t_rows t_strands t_letters t_listedMany t_listN t_listWhat t_f t_table p1) → va_S A s.heap H locs → lv_has ls 5 [(0, .ref h_t), (1, .ref h_p1), (2, .int x2), (3, .int x3)] → W p l e R s m args below meth c H locs 0 0 Q (F0 m 2 ls []) := by
    intro x2 I2 m2 hB2 n
    induction n with
    | zero => intro x3 H locs ls _ hm; exact absurd hm (Nat.not_lt_zero _)
    | succ n ih =>
      intro x3 H locs ls hI hm hP hD hS hl
      obtain ⟨R2, h, rec2⟩ : ∃ R2 : Int32 → Prop, pX11_makes_2 N_p1 t_n t_f t_table p1 K x2 x3 R2 ∧ ∀ (x3 : Int32) (H : Heap) (locs : List Loc) (ls : Array Slot), R2 x3 → va_P G vwCl (w_X11_makes Y h_t h_p1 B_t N_p1 t_thrown t_n t_modulus t_rows t_strands t_letters t_listedMany t_listN t_listWhat t_f t_table p1) H → va_D A (w_X11_makes Y h_t h_p1 B_t N_p1 t_thrown t_n t_modulus t_rows t_strands t_letters t_listedMany t_listN t_listWhat t_f t_table p1) → va_S A s.heap H locs → lv_has ls 5 [(0, .ref h_t), (1, .ref h_p1), (2, .int x2), (3, .int x3)] → W p l e R s m args below meth c H locs 0 0 Q (F0 m 2 ls []) := ⟨_, hB2 x3 hI, fun x3 H locs ls hh hP hD hS hl => ih x3 H locs ls hh.1 (Nat.lt_of_lt_of_le hh.2 (Nat.le_of_lt_succ hm)) hP hD hS hl⟩
      refine lv_iload_n hx hb dX11_makes_2 rfl (lv_at hl 3 rfl) ?_
      refine lv_aload_n hx hb dX11_makes_3 rfl (lv_at hl 0 rfl) ?_
      refine va_get (D := G) (ci := 10) (v := .int t_n) (C := RX11) (T := TX11) (N := 29) hx hb hts inX11 hown hK hP 0 rfl rfl 1 (by decide) hf9 (fun _ h9 => h9) rfl dX11_makes_4 ?_
      obtain ⟨ht, hf⟩ := h
      refine lv_icmp_ge (tgt := 72) hx hb dX11_makes_7 (by decide) (fun c9 => ?_) (fun c9 => ?_)
      · have h := ht c9
        refine lv_iconst (v := 1) hx hb dX11_makes_72 (by decide) ?_
        obtain ⟨hz, h⟩ := h
        exact hret (1 : Int32)  H locs ls _ hP hD hS hz h dX11_makes_73
      · have h := hf c9
        refine lv_iconst (v := 0) hx hb dX11_makes_10 (by decide) ?_
        refine lv_istore (lv' := [(4, .int (0 : Int32)), (0, .ref h_t), (1, .ref h_p1), (2, .int x2), (3, .int x3)]) hx hb dX11_makes_11 hl (by decide) rfl (fun ls hl => ?_)
        obtain ⟨I13, m13, hI13, hB13⟩ := h
        have L13 : ∀ (x3 : Int32) (I13 : Int32 → Prop) (m13 : Int32 → Nat), (∀ (x4 : Int32), I13 x4 → pX11_makes_13 N_p1 t_n t_f t_table p1 R2 K x2 x3 x4 (fun x4' => I13 x4' ∧ m13 x4' < m13 x4)) → ∀ (n : Nat) (x4 : Int32) (H : Heap) (locs : List Loc) (ls : Array Slot), I13 x4 → m13 x4 < n → va_P G vwCl (w_X11_makes Y h_t h_p1 B_t N_p1 t_thrown t_n t_modulus t_rows t_strands t_letters t_listedMany t_listN t_listWhat t_f t_table p1) H → va_D A (w_X11_makes Y h_t h_p1 B_t N_p1 t_thrown t_n t_modulus t_rows t_strands t_letters t_listedMany t_listN t_listWhat t_f t_table p1) → va_S A s.heap H locs → lv_has ls 5 [(0, .ref h_t), (1, .ref h_p1), (2, .int x2), (3, .int x3), (4, .int x4)] → W p l e R s m args below meth c H locs 0 0 Q (F0 m 13 ls []) := by
          intro x3 I13 m13 hB13 n
          induction n with
          | zero => intro x4 H locs ls _ hm; exact absurd hm (Nat.not_lt_zero _)
          | succ n ih =>
            intro x4 H locs ls hI hm hP hD hS hl
            obtain ⟨R13, h, rec13⟩ : ∃ R13 : Int32 → Prop, pX11_makes_13 N_p1 t_n t_f t_table p1 R2 K x2 x3 x4 R13 ∧ ∀ (x4 : Int32) (H : Heap) (locs : List Loc) (ls : Array Slot), R13 x4 → va_P G vwCl (w_X11_makes Y h_t h_p1 B_t N_p1 t_thrown t_n t_modulus t_rows t_strands t_letters t_listedMany t_listN t_listWhat t_f t_table p1) H → va_D A (w_X11_makes Y h_t h_p1 B_t N_p1 t_thrown t_n t_modulus t_rows t_strands t_letters t_listedMany t_listN t_listWhat t_f t_table p1) → va_S A s.heap H locs → lv_has ls 5 [(0, .ref h_t), (1, .ref h_p1), (2, .int x2), (3, .int x3), (4, .int x4)] → W p l e R s m args below meth c H locs 0 0 Q (F0 m 13 ls []) := ⟨_, hB13 x4 hI, fun x4 H locs ls hh hP hD hS hl => ih x4 H locs ls hh.1 (Nat.lt_of_lt_of_le hh.2 (Nat.le_of_lt_succ hm)) hP hD hS hl⟩
            refine lv_iload hx hb dX11_makes_13 (lv_at hl 4 rfl) ?_
            refine lv_aload_n hx hb dX11_makes_15 rfl (lv_at hl 0 rfl) ?_
            refine va_get (D := G) (ci := 10) (v := .int t_n) (C := RX11) (T := TX11) (N := 29) hx hb hts inX11 hown hK hP 0 rfl rfl 1 (by decide) hf9 (fun _ h9 => h9) rfl dX11_makes_16 ?_
            obtain ⟨ht, hf⟩ := h
            refine lv_icmp_ge (tgt := 66) hx hb dX11_makes_19 (by decide) (fun c9 => ?_) (fun c9 => ?_)
            · have h := ht c9
              refine lv_iinc (v := (x3 + 1)) (lv' := [(3, .int (x3 + 1)), (0, .ref h_t), (1, .ref h_p1), (2, .int x2), (4, .int x4)]) hx hb dX11_makes_66 hl (k := 3) rfl rfl (by decide) rfl (fun ls hl => ?_)
              refine lv_goto (tgt := 2) hx hb dX11_makes_69 (by decide) ?_
              exact rec2 (x3 + 1) H locs ls h hP hD hS (lv_sub hl [1, 2, 3, 0] rfl)
            · have h := hf c9
              refine lv_aload_n hx hb dX11_makes_22 rfl (lv_at hl 1 rfl) ?_
              refine lv_iload_n hx hb dX11_makes_23 rfl (lv_at hl 2 rfl) ?_
              refine lv_bipush (v := 8) hx hb dX11_makes_24 (by decide) ?_
              refine lv_aload_n hx hb dX11_makes_26 rfl (lv_at hl 0 rfl) ?_
              refine va_get (D := G) (ci := 10) (v := .ref (B_t 5)) (C := RX11) (T := TX11) (N := 29) hx hb hts inX11 hown hK hP 0 rfl rfl 5 (by decide) hf23 (fun _ h9 => h9) rfl dX11_makes_27 ?_
              refine lv_iload_n hx hb dX11_makes_30 rfl (lv_at hl 3 rfl) ?_
              obtain ⟨hin, h⟩ := h
              refine va_iald hx hb hK hP 1 0 rfl rfl hin dX11_makes_31 ?_
              refine lv_imul hx hb dX11_makes_32 ?_
              refine lv_iadd hx hb dX11_makes_33 ?_
              refine lv_aload_n hx hb dX11_makes_34 rfl (lv_at hl 0 rfl) ?_
              refine va_get (D := G) (ci := 10) (v := .ref (B_t 5)) (C := RX11) (T := TX11) (N := 29) hx hb hts inX11 hown hK hP 0 rfl rfl 5 (by decide) hf23 (fun _ h9 => h9) rfl dX11_makes_35 ?_
              refine lv_iload hx hb dX11_makes_38 (lv_at hl 4 rfl) ?_
              obtain ⟨hin, h⟩ := h
              refine va_iald hx hb hK hP 1 0 rfl rfl hin dX11_makes_40 ?_
              refine lv_iadd hx hb dX11_makes_41 ?_
              obtain ⟨hin, h⟩ := h
              refine va_iald hx hb hK hP 3 0 rfl rfl hin dX11_makes_42 ?_
              refine lv_aload_n hx hb dX11_makes_43 rfl (lv_at hl 0 rfl) ?_
              refine va_get (D := G) (ci := 10) (v := .ref (B_t 5)) (C := RX11) (T := TX11) (N := 29) hx hb hts inX11 hown hK hP 0 rfl rfl 5 (by decide) hf23 (fun _ h9 => h9) rfl dX11_makes_44 ?_
              refine lv_aload_n hx hb dX11_makes_47 rfl (lv_at hl 0 rfl) ?_
              refine lv_iload_n hx hb dX11_makes_48 rfl (lv_at hl 3 rfl) ?_
              refine lv_iload hx hb dX11_makes_49 (lv_at hl 4 rfl) ?_
              refine mc_iV ⟨hx, hb, hml, hown, hts⟩ hK hE hA hP hD hS (c_X11_by l G Y tF H.size h_t B_t t_thrown t_n t_modulus t_rows t_strands t_letters t_listedMany t_listN t_listWhat t_table x3 x4 h) (cwV 2 hts gX11_makes_X11_by rfl rfl rfl (by decide +kernel) ⟨Nat.le_trans (by decide) hRf, Nat.le_trans (by decide) hRl⟩) (fun u => (w_X11_makes Y h_t h_p1 B_t N_p1 t_thrown t_n t_modulus t_rows t_strands t_letters t_listedMany t_listN t_listWhat t_f t_table p1)) [0, 2] [1, 3] [2, 0, 3, 1] rfl rfl rfl rfl (by decide) (fun _ => rfl) rfl 0 10 rfl rfl rfl rfl hl.1 rfl (Nat.le_of_ble_eq_true rfl) dX11_makes_51 (fun r51 u H locs h hP hD hS => ?_)
              try dsimp only at h
              have hP : va_P G vwCl (w_X11_makes Y h_t h_p1 B_t N_p1 t_thrown t_n t_modulus t_rows t_strands t_letters t_listedMany t_listN t_listWhat t_f t_table p1) H := hP
              have hD : va_D A (w_X11_makes Y h_t h_p1 B_t N_p1 t_thrown t_n t_modulus t_rows t_strands t_letters t_listedMany t_listN t_listWhat t_f t_table p1) := hD
              obtain ⟨hin, h⟩ := h
              refine va_iald hx hb hK hP 1 0 rfl rfl hin dX11_makes_54 ?_
              obtain ⟨ht, hf⟩ := h
              refine lv_icmp_eq (tgt := 60) hx hb dX11_makes_55 (by decide) (fun c9 => ?_) (fun c9 => ?_)
              · have h := ht c9
                refine lv_iinc (v := (x4 + 1)) (lv' := [(4, .int (x4 + 1)), (0, .ref h_t), (1, .ref h_p1), (2, .int x2), (3, .int x3)]) hx hb dX11_makes_60 hl (k := 4) rfl rfl (by decide) rfl (fun ls hl => ?_)
                refine lv_goto (tgt := 13) hx hb dX11_makes_63 (by decide) ?_
                exact rec13 (x4 + 1) H locs ls h hP hD hS (lv_sub hl [1, 2, 3, 4, 0] rfl)
              · have h := hf c9
                refine lv_iconst (v := 0) hx hb dX11_makes_58 (by decide) ?_
                obtain ⟨hz, h⟩ := h
                exact hret (0 : Int32)  H locs ls _ hP hD hS hz h dX11_makes_59
        exact L13 x3 I13 m13 hB13 _ (0 : Int32) H locs ls hI13 (Nat.lt_succ_self _) hP hD hS (lv_sub hl [1, 2, 3, 4, 0] rfl)
  exact L2 x2 I2 m2 hB2 _ (0 : Int32) H locs ls hI2 (Nat.lt_succ_self _) hP hD hS (lv_sub hl [1, 2, 3, 0] rfl)

set_option maxHeartbeats 20000000 in
set_option maxRecDepth 100000 in
theorem c_X11_makes (l : Launch) (G : va_G) (Y : Nat → ClassId) (tF sz : Nat) (h_t : Nat) (h_p1 : Nat) (B_t : Nat → Nat) (N_p1 : Nat) (t_thrown : Int32) (t_n : Int32) (t_modulus : Int32) (t_rows : Int32) (t_strands : Int32) (t_letters : Int32) (t_listedMany : Int32) (t_listN : Int32) (t_listWhat : Int32) (t_f : Nat → Int32) (t_table : Nat → Int32) (p1 : Nat → Int32) (x2 : Int32) {K : Int32 → Prop} (h : pX11_makes N_p1 t_n t_f t_table p1 x2 K) : Met l yX11_makes wsX11_makes ({ frames := 1, cells := 0, slots := 0, locals := 22 }) (PcM G Y tF sz (w_X11_makes Y h_t h_p1 B_t N_p1 t_thrown t_n t_modulus t_rows t_strands t_letters t_listedMany t_listN t_listWhat t_f t_table p1) [.ref h_t, .ref h_p1, .int x2]) (va_Qi (fun (r : Int32) (u : Unit) => K r ) (fun u t => BM G Y (va_A (w_X11_makes Y h_t h_p1 B_t N_p1 t_thrown t_n t_modulus t_rows t_strands t_letters t_listedMany t_listN t_listWhat t_f t_table p1) sz) (w_X11_makes Y h_t h_p1 B_t N_p1 t_thrown t_n t_modulus t_rows t_strands t_letters t_listedMany t_listN t_listWhat t_f t_table p1) t) (va_A (w_X11_makes Y h_t h_p1 B_t N_p1 t_thrown t_n t_modulus t_rows t_strands t_letters t_listedMany t_listN t_listWhat t_f t_table p1) sz)) 0 0 (va_A (w_X11_makes Y h_t h_p1 B_t N_p1 t_thrown t_n t_modulus t_rows t_strands t_letters t_listedMany t_listN t_listWhat t_f t_table p1) sz) := by
  refine Met.ofW (cc := cX11_makes) (maxL := 5) (ret := (some .boolean)) (by decide +kernel) rfl ?_
  intro p e s m args below meth c s₁ B hml hv
  obtain ⟨rfl, hsz, hP, hK, hD0, hE⟩ := hv
  have hts := atoms_spec (ws := wsX11_makes) B.pre
  have hown : s.vm.findClass RX11 = some m.cls := findClass_of_methodNamed B.named
  have hlocks := B.notSynchronized
  subst hsz
  have hD := hD0.self (sz := s.heap.size)
  exact wk_X11_makes h_t h_p1 B_t N_p1 t_thrown t_n t_modulus t_rows t_strands t_letters t_listedMany t_listN t_listWhat t_f t_table p1 x2 B.exec B.bytes hml hown hts hK hE (fun q h => Or.inr h) (Nat.le_refl _) (Nat.le_refl _) (fun r  H locs ls pc hP hD hS hz hk hd => W.zret (v := r) B.exec B.bytes B.returns hz.n (fun t ht hW => ⟨⟨r, (), rfl, hk, by rw [ht]; exact hP, va_K.moved hW.alike hK, hD⟩, hS.F ht⟩) hS.2.2 hd) hP hD h

abbrev w_X11_makes_al (Y : Nat → ClassId) (h_t : Nat) (B_t : Nat → Nat) (t_thrown : Int32) (t_n : Int32) (t_modulus : Int32) (t_rows : Int32) (t_strands : Int32) (t_letters : Int32) (t_listedMany : Int32) (t_listN : Int32) (t_listWhat : Int32) (t_f : Nat → Int32) (t_table : Nat → Int32) : va_W := [(h_t, .inr (10, [.int t_thrown, .int t_n, .ref (B_t 2), .int t_modulus, .ref (B_t 4), .ref (B_t 5), .ref (B_t 6), .ref (B_t 7), .ref (B_t 8), .ref (B_t 9), .ref (B_t 10), .int t_rows, .ref (B_t 12), .ref (B_t 13), .ref (B_t 14), .ref (B_t 15), .ref (B_t 16), .ref (B_t 17), .ref (B_t 18), .ref (B_t 19), .int t_strands, .int t_letters, .ref (B_t 22), .ref (B_t 23), .ref (B_t 24), .ref (B_t 25), .int t_listedMany, .int t_listN, .int t_listWhat])), ((B_t 5), .inl (Y 0, 8, .inl t_f)), ((B_t 2), .inl (Y 0, 64, .inl t_table))]

set_option maxHeartbeats 20000000 in
set_option maxRecDepth 100000 in
theorem wk_X11_makes_al {p : Program} {l : Launch} {e : Env} {R : Room} {s : State} {m : MethodId} {args : Array Value} {below : List Frame} {meth : Method} {c : Code} {Q : State → Prop} {G : va_G} {Y : Nat → ClassId} {tF : Nat} {A : Nat → Prop} (h_t : Nat) (B_t : Nat → Nat) (t_thrown : Int32) (t_n : Int32) (t_modulus : Int32) (t_rows : Int32) (t_strands : Int32) (t_letters : Int32) (t_listedMany : Int32) (t_listN : Int32) (t_listWhat : Int32) (t_f : Nat → Int32) (t_table : Nat → Int32) (x2 : Int32) {K : Int32 → Prop} (hx : p.tables.exec = Jvm.exec) (hb : c.code = cX11_makes) (hml : c.maxLocals = 5) (hown : s.vm.findClass RX11 = some m.cls) (hts : ∀ w ∈ wsX11_makes, w.before args s = true) (hK : va_K G vwCl (tyL Y) s) (hE : Ev A tF s) (hA : ∀ q, s.heap.size ≤ q → A q) (hRf : 1 ≤ R.frames) (hRl : 22 ≤ R.locals) (hret : ∀ (r : Int32)  (H : Heap) (locs : List Loc) (ls : Array Slot) (pc : Nat), va_P G vwCl (w_X11_makes_al Y h_t B_t t_thrown t_n t_modulus t_rows t_strands t_letters t_listedMany t_listN t_listWhat t_f t_table) H → va_D A (w_X11_makes_al Y h_t B_t t_thrown t_n t_modulus t_rows t_strands t_letters t_listedMany t_listN t_listWhat t_f t_table) → va_S A s.heap H locs → zb r → K r → decode cX11_makes pc = .ok (.ireturn, 1) → W p l e R s m args below meth c H locs 0 0 Q (F0 m pc ls [.int r])) (hP : va_P G vwCl (w_X11_makes_al Y h_t B_t t_thrown t_n t_modulus t_rows t_strands t_letters t_listedMany t_listN t_listWhat t_f t_table) s.heap) (hD : va_D A (w_X11_makes_al Y h_t B_t t_thrown t_n t_modulus t_rows t_strands t_letters t_listedMany t_listN t_listWhat t_f t_table)) (h : pX11_makes 64 t_n t_f t_table t_table x2 K) : W p l e R s m args below meth c s.heap [] 0 0 Q (entryFrame m ([.ref h_t, .ref (B_t 2), .int x2] : List Value).toArray 5) := by
  have inX11 : ∀ w ∈ u_ws RX11 TX11 29, w ∈ wsX11_makes := by decide +kernel
  have hf23 := hts (.fieldLink RX11 23 "RackBenchModel" "f" "[I") (by decide +kernel)
  have hf9 := hts (.fieldLink RX11 9 "RackBenchModel" "n" "I") (by decide +kernel)
  have hl := lv_entry ([.ref h_t, .ref (B_t 2), .int x2]) (n := 5) (Nat.le_of_ble_eq_true rfl)
  rw [lg_entry_eq]
  generalize (lg_sl ([.ref h_t, .ref (B_t 2), .int x2]) ++ List.replicate (5 - (lg_sl ([.ref h_t, .ref (B_t 2), .int x2])).length) Slot.unset).toArray = ls at hl ⊢
  have hl : lv_has ls 5 [(0, .ref h_t), (1, .ref (B_t 2)), (2, .int x2)] := hl
  generalize hH0 : s.heap = H at hP ⊢
  have hS : va_S A s.heap H [] := by rw [← hH0]; exact va_S.rf
  clear hH0
  generalize ([] : List Loc) = locs at hS ⊢
  refine lv_iconst (v := 0) hx hb dX11_makes_0 (by decide) ?_
  refine lv_istore_n (lv' := [(3, .int (0 : Int32)), (0, .ref h_t), (1, .ref (B_t 2)), (2, .int x2)]) hx hb dX11_makes_1 rfl hl (by decide) rfl (fun ls hl => ?_)
  obtain ⟨I2, m2, hI2, hB2⟩ := h
  have L2 : ∀ (x2 : Int32) (I2 : Int32 → Prop) (m2 : Int32 → Nat), (∀ (x3 : Int32), I2 x3 → pX11_makes_2 64 t_n t_f t_table t_table K x2 x3 (fun x3' => I2 x3' ∧ m2 x3' < m2 x3)) → ∀ (n : Nat) (x3 : Int32) (H : Heap) (locs : List Loc) (ls : Array Slot), I2 x3 → m2 x3 < n → va_P G vwCl (w_X11_makes_al Y h_t B_t t_thrown t_n t_modulus t_rows t_strands t_letters t_listedMany t_listN t_listWhat t_f t_table) H → va_D A (w_X11_makes_al Y h_t B_t t_thrown t_n t_modulus t_rows t_strands t_letters t_listedMany t_listN t_listWhat t_f t_table) → va_S A s.heap H locs → lv_has ls 5 [(0, .ref h_t), (1, .ref (B_t 2)), (2, .int x2), (3, .int x3)] → W p l e R s m args below meth c H locs 0 0 Q (F0 m 2 ls []) := by
    intro x2 I2 m2 hB2 n
    induction n with
    | zero => intro x3 H locs ls _ hm; exact absurd hm (Nat.not_lt_zero _)
    | succ n ih =>
      intro x3 H locs ls hI hm hP hD hS hl
      obtain ⟨R2, h, rec2⟩ : ∃ R2 : Int32 → Prop, pX11_makes_2 64 t_n t_f t_table t_table K x2 x3 R2 ∧ ∀ (x3 : Int32) (H : Heap) (locs : List Loc) (ls : Array Slot), R2 x3 → va_P G vwCl (w_X11_makes_al Y h_t B_t t_thrown t_n t_modulus t_rows t_strands t_letters t_listedMany t_listN t_listWhat t_f t_table) H → va_D A (w_X11_makes_al Y h_t B_t t_thrown t_n t_modulus t_rows t_strands t_letters t_listedMany t_listN t_listWhat t_f t_table) → va_S A s.heap H locs → lv_has ls 5 [(0, .ref h_t), (1, .ref (B_t 2)), (2, .int x2), (3, .int x3)] → W p l e R s m args below meth c H locs 0 0 Q (F0 m 2 ls []) := ⟨_, hB2 x3 hI, fun x3 H locs ls hh hP hD hS hl => ih x3 H locs ls hh.1 (Nat.lt_of_lt_of_le hh.2 (Nat.le_of_lt_succ hm)) hP hD hS hl⟩
      refine lv_iload_n hx hb dX11_makes_2 rfl (lv_at hl 3 rfl) ?_
      refine lv_aload_n hx hb dX11_makes_3 rfl (lv_at hl 0 rfl) ?_
      refine va_get (D := G) (ci := 10) (v := .int t_n) (C := RX11) (T := TX11) (N := 29) hx hb hts inX11 hown hK hP 0 rfl rfl 1 (by decide) hf9 (fun _ h9 => h9) rfl dX11_makes_4 ?_
      obtain ⟨ht, hf⟩ := h
      refine lv_icmp_ge (tgt := 72) hx hb dX11_makes_7 (by decide) (fun c9 => ?_) (fun c9 => ?_)
      · have h := ht c9
        refine lv_iconst (v := 1) hx hb dX11_makes_72 (by decide) ?_
        obtain ⟨hz, h⟩ := h
        exact hret (1 : Int32)  H locs ls _ hP hD hS hz h dX11_makes_73
      · have h := hf c9
        refine lv_iconst (v := 0) hx hb dX11_makes_10 (by decide) ?_
        refine lv_istore (lv' := [(4, .int (0 : Int32)), (0, .ref h_t), (1, .ref (B_t 2)), (2, .int x2), (3, .int x3)]) hx hb dX11_makes_11 hl (by decide) rfl (fun ls hl => ?_)
        obtain ⟨I13, m13, hI13, hB13⟩ := h
        have L13 : ∀ (x3 : Int32) (I13 : Int32 → Prop) (m13 : Int32 → Nat), (∀ (x4 : Int32), I13 x4 → pX11_makes_13 64 t_n t_f t_table t_table R2 K x2 x3 x4 (fun x4' => I13 x4' ∧ m13 x4' < m13 x4)) → ∀ (n : Nat) (x4 : Int32) (H : Heap) (locs : List Loc) (ls : Array Slot), I13 x4 → m13 x4 < n → va_P G vwCl (w_X11_makes_al Y h_t B_t t_thrown t_n t_modulus t_rows t_strands t_letters t_listedMany t_listN t_listWhat t_f t_table) H → va_D A (w_X11_makes_al Y h_t B_t t_thrown t_n t_modulus t_rows t_strands t_letters t_listedMany t_listN t_listWhat t_f t_table) → va_S A s.heap H locs → lv_has ls 5 [(0, .ref h_t), (1, .ref (B_t 2)), (2, .int x2), (3, .int x3), (4, .int x4)] → W p l e R s m args below meth c H locs 0 0 Q (F0 m 13 ls []) := by
          intro x3 I13 m13 hB13 n
          induction n with
          | zero => intro x4 H locs ls _ hm; exact absurd hm (Nat.not_lt_zero _)
          | succ n ih =>
            intro x4 H locs ls hI hm hP hD hS hl
            obtain ⟨R13, h, rec13⟩ : ∃ R13 : Int32 → Prop, pX11_makes_13 64 t_n t_f t_table t_table R2 K x2 x3 x4 R13 ∧ ∀ (x4 : Int32) (H : Heap) (locs : List Loc) (ls : Array Slot), R13 x4 → va_P G vwCl (w_X11_makes_al Y h_t B_t t_thrown t_n t_modulus t_rows t_strands t_letters t_listedMany t_listN t_listWhat t_f t_table) H → va_D A (w_X11_makes_al Y h_t B_t t_thrown t_n t_modulus t_rows t_strands t_letters t_listedMany t_listN t_listWhat t_f t_table) → va_S A s.heap H locs → lv_has ls 5 [(0, .ref h_t), (1, .ref (B_t 2)), (2, .int x2), (3, .int x3), (4, .int x4)] → W p l e R s m args below meth c H locs 0 0 Q (F0 m 13 ls []) := ⟨_, hB13 x4 hI, fun x4 H locs ls hh hP hD hS hl => ih x4 H locs ls hh.1 (Nat.lt_of_lt_of_le hh.2 (Nat.le_of_lt_succ hm)) hP hD hS hl⟩
            refine lv_iload hx hb dX11_makes_13 (lv_at hl 4 rfl) ?_
            refine lv_aload_n hx hb dX11_makes_15 rfl (lv_at hl 0 rfl) ?_
            refine va_get (D := G) (ci := 10) (v := .int t_n) (C := RX11) (T := TX11) (N := 29) hx hb hts inX11 hown hK hP 0 rfl rfl 1 (by decide) hf9 (fun _ h9 => h9) rfl dX11_makes_16 ?_
            obtain ⟨ht, hf⟩ := h
            refine lv_icmp_ge (tgt := 66) hx hb dX11_makes_19 (by decide) (fun c9 => ?_) (fun c9 => ?_)
            · have h := ht c9
              refine lv_iinc (v := (x3 + 1)) (lv' := [(3, .int (x3 + 1)), (0, .ref h_t), (1, .ref (B_t 2)), (2, .int x2), (4, .int x4)]) hx hb dX11_makes_66 hl (k := 3) rfl rfl (by decide) rfl (fun ls hl => ?_)
              refine lv_goto (tgt := 2) hx hb dX11_makes_69 (by decide) ?_
              exact rec2 (x3 + 1) H locs ls h hP hD hS (lv_sub hl [1, 2, 3, 0] rfl)
            · have h := hf c9
              refine lv_aload_n hx hb dX11_makes_22 rfl (lv_at hl 1 rfl) ?_
              refine lv_iload_n hx hb dX11_makes_23 rfl (lv_at hl 2 rfl) ?_
              refine lv_bipush (v := 8) hx hb dX11_makes_24 (by decide) ?_
              refine lv_aload_n hx hb dX11_makes_26 rfl (lv_at hl 0 rfl) ?_
              refine va_get (D := G) (ci := 10) (v := .ref (B_t 5)) (C := RX11) (T := TX11) (N := 29) hx hb hts inX11 hown hK hP 0 rfl rfl 5 (by decide) hf23 (fun _ h9 => h9) rfl dX11_makes_27 ?_
              refine lv_iload_n hx hb dX11_makes_30 rfl (lv_at hl 3 rfl) ?_
              obtain ⟨hin, h⟩ := h
              refine va_iald hx hb hK hP 1 0 rfl rfl hin dX11_makes_31 ?_
              refine lv_imul hx hb dX11_makes_32 ?_
              refine lv_iadd hx hb dX11_makes_33 ?_
              refine lv_aload_n hx hb dX11_makes_34 rfl (lv_at hl 0 rfl) ?_
              refine va_get (D := G) (ci := 10) (v := .ref (B_t 5)) (C := RX11) (T := TX11) (N := 29) hx hb hts inX11 hown hK hP 0 rfl rfl 5 (by decide) hf23 (fun _ h9 => h9) rfl dX11_makes_35 ?_
              refine lv_iload hx hb dX11_makes_38 (lv_at hl 4 rfl) ?_
              obtain ⟨hin, h⟩ := h
              refine va_iald hx hb hK hP 1 0 rfl rfl hin dX11_makes_40 ?_
              refine lv_iadd hx hb dX11_makes_41 ?_
              obtain ⟨hin, h⟩ := h
              refine va_iald hx hb hK hP 2 0 rfl rfl hin dX11_makes_42 ?_
              refine lv_aload_n hx hb dX11_makes_43 rfl (lv_at hl 0 rfl) ?_
              refine va_get (D := G) (ci := 10) (v := .ref (B_t 5)) (C := RX11) (T := TX11) (N := 29) hx hb hts inX11 hown hK hP 0 rfl rfl 5 (by decide) hf23 (fun _ h9 => h9) rfl dX11_makes_44 ?_
              refine lv_aload_n hx hb dX11_makes_47 rfl (lv_at hl 0 rfl) ?_
              refine lv_iload_n hx hb dX11_makes_48 rfl (lv_at hl 3 rfl) ?_
              refine lv_iload hx hb dX11_makes_49 (lv_at hl 4 rfl) ?_
              refine mc_iV ⟨hx, hb, hml, hown, hts⟩ hK hE hA hP hD hS (c_X11_by l G Y tF H.size h_t B_t t_thrown t_n t_modulus t_rows t_strands t_letters t_listedMany t_listN t_listWhat t_table x3 x4 h) (cwV 2 hts gX11_makes_X11_by rfl rfl rfl (by decide +kernel) ⟨Nat.le_trans (by decide) hRf, Nat.le_trans (by decide) hRl⟩) (fun u => (w_X11_makes_al Y h_t B_t t_thrown t_n t_modulus t_rows t_strands t_letters t_listedMany t_listN t_listWhat t_f t_table)) [0, 2] [1] [1, 0, 2] rfl rfl rfl rfl (by decide) (fun _ => rfl) rfl 0 10 rfl rfl rfl rfl hl.1 rfl (Nat.le_of_ble_eq_true rfl) dX11_makes_51 (fun r51 u H locs h hP hD hS => ?_)
              try dsimp only at h
              have hP : va_P G vwCl (w_X11_makes_al Y h_t B_t t_thrown t_n t_modulus t_rows t_strands t_letters t_listedMany t_listN t_listWhat t_f t_table) H := hP
              have hD : va_D A (w_X11_makes_al Y h_t B_t t_thrown t_n t_modulus t_rows t_strands t_letters t_listedMany t_listN t_listWhat t_f t_table) := hD
              obtain ⟨hin, h⟩ := h
              refine va_iald hx hb hK hP 1 0 rfl rfl hin dX11_makes_54 ?_
              obtain ⟨ht, hf⟩ := h
              refine lv_icmp_eq (tgt := 60) hx hb dX11_makes_55 (by decide) (fun c9 => ?_) (fun c9 => ?_)
              · have h := ht c9
                refine lv_iinc (v := (x4 + 1)) (lv' := [(4, .int (x4 + 1)), (0, .ref h_t), (1, .ref (B_t 2)), (2, .int x2), (3, .int x3)]) hx hb dX11_makes_60 hl (k := 4) rfl rfl (by decide) rfl (fun ls hl => ?_)
                refine lv_goto (tgt := 13) hx hb dX11_makes_63 (by decide) ?_
                exact rec13 (x4 + 1) H locs ls h hP hD hS (lv_sub hl [1, 2, 3, 4, 0] rfl)
              · have h := hf c9
                refine lv_iconst (v := 0) hx hb dX11_makes_58 (by decide) ?_
                obtain ⟨hz, h⟩ := h
                exact hret (0 : Int32)  H locs ls _ hP hD hS hz h dX11_makes_59
        exact L13 x3 I13 m13 hB13 _ (0 : Int32) H locs ls hI13 (Nat.lt_succ_self _) hP hD hS (lv_sub hl [1, 2, 3, 4, 0] rfl)
  exact L2 x2 I2 m2 hB2 _ (0 : Int32) H locs ls hI2 (Nat.lt_succ_self _) hP hD hS (lv_sub hl [1, 2, 3, 0] rfl)

set_option maxHeartbeats 20000000 in
set_option maxRecDepth 100000 in
theorem c_X11_makes_al (l : Launch) (G : va_G) (Y : Nat → ClassId) (tF sz : Nat) (h_t : Nat) (B_t : Nat → Nat) (t_thrown : Int32) (t_n : Int32) (t_modulus : Int32) (t_rows : Int32) (t_strands : Int32) (t_letters : Int32) (t_listedMany : Int32) (t_listN : Int32) (t_listWhat : Int32) (t_f : Nat → Int32) (t_table : Nat → Int32) (x2 : Int32) {K : Int32 → Prop} (h : pX11_makes 64 t_n t_f t_table t_table x2 K) : Met l yX11_makes wsX11_makes ({ frames := 1, cells := 0, slots := 0, locals := 22 }) (PcM G Y tF sz (w_X11_makes_al Y h_t B_t t_thrown t_n t_modulus t_rows t_strands t_letters t_listedMany t_listN t_listWhat t_f t_table) [.ref h_t, .ref (B_t 2), .int x2]) (va_Qi (fun (r : Int32) (u : Unit) => K r ) (fun u t => BM G Y (va_A (w_X11_makes_al Y h_t B_t t_thrown t_n t_modulus t_rows t_strands t_letters t_listedMany t_listN t_listWhat t_f t_table) sz) (w_X11_makes_al Y h_t B_t t_thrown t_n t_modulus t_rows t_strands t_letters t_listedMany t_listN t_listWhat t_f t_table) t) (va_A (w_X11_makes_al Y h_t B_t t_thrown t_n t_modulus t_rows t_strands t_letters t_listedMany t_listN t_listWhat t_f t_table) sz)) 0 0 (va_A (w_X11_makes_al Y h_t B_t t_thrown t_n t_modulus t_rows t_strands t_letters t_listedMany t_listN t_listWhat t_f t_table) sz) := by
  refine Met.ofW (cc := cX11_makes) (maxL := 5) (ret := (some .boolean)) (by decide +kernel) rfl ?_
  intro p e s m args below meth c s₁ B hml hv
  obtain ⟨rfl, hsz, hP, hK, hD0, hE⟩ := hv
  have hts := atoms_spec (ws := wsX11_makes) B.pre
  have hown : s.vm.findClass RX11 = some m.cls := findClass_of_methodNamed B.named
  have hlocks := B.notSynchronized
  subst hsz
  have hD := hD0.self (sz := s.heap.size)
  exact wk_X11_makes_al h_t B_t t_thrown t_n t_modulus t_rows t_strands t_letters t_listedMany t_listN t_listWhat t_f t_table x2 B.exec B.bytes hml hown hts hK hE (fun q h => Or.inr h) (Nat.le_refl _) (Nat.le_refl _) (fun r  H locs ls pc hP hD hS hz hk hd => W.zret (v := r) B.exec B.bytes B.returns hz.n (fun t ht hW => ⟨⟨r, (), rfl, hk, by rw [ht]; exact hP, va_K.moved hW.alike hK, hD⟩, hS.F ht⟩) hS.2.2 hd) hP hD h

abbrev w_X11_keepers (Y : Nat → ClassId) (h_t : Nat) (B_t : Nat → Nat) (t_thrown : Int32) (t_n : Int32) (t_modulus : Int32) (t_rows : Int32) (t_strands : Int32) (t_letters : Int32) (t_listedMany : Int32) (t_listN : Int32) (t_listWhat : Int32) (t_f : Nat → Int32) (t_table : Nat → Int32) : va_W := [(h_t, .inr (10, [.int t_thrown, .int t_n, .ref (B_t 2), .int t_modulus, .ref (B_t 4), .ref (B_t 5), .ref (B_t 6), .ref (B_t 7), .ref (B_t 8), .ref (B_t 9), .ref (B_t 10), .int t_rows, .ref (B_t 12), .ref (B_t 13), .ref (B_t 14), .ref (B_t 15), .ref (B_t 16), .ref (B_t 17), .ref (B_t 18), .ref (B_t 19), .int t_strands, .int t_letters, .ref (B_t 22), .ref (B_t 23), .ref (B_t 24), .ref (B_t 25), .int t_listedMany, .int t_listN, .int t_listWhat])), ((B_t 5), .inl (Y 0, 8, .inl t_f)), ((B_t 2), .inl (Y 0, 64, .inl t_table))]

set_option maxHeartbeats 20000000 in
set_option maxRecDepth 100000 in
theorem wk_X11_keepers {p : Program} {l : Launch} {e : Env} {R : Room} {s : State} {m : MethodId} {args : Array Value} {below : List Frame} {meth : Method} {c : Code} {Q : State → Prop} {G : va_G} {Y : Nat → ClassId} {tF : Nat} {A : Nat → Prop} (h_t : Nat) (B_t : Nat → Nat) (t_thrown : Int32) (t_n : Int32) (t_modulus : Int32) (t_rows : Int32) (t_strands : Int32) (t_letters : Int32) (t_listedMany : Int32) (t_listN : Int32) (t_listWhat : Int32) (t_f : Nat → Int32) (t_table : Nat → Int32) {K : Int32 → Int32 → (Nat → Int32) → Prop} (hx : p.tables.exec = Jvm.exec) (hb : c.code = cX11_keepers) (hml : c.maxLocals = 3) (hown : s.vm.findClass RX11 = some m.cls) (hts : ∀ w ∈ wsX11_keepers, w.before args s = true) (hK : va_K G vwCl (tyL Y) s) (hE : Ev A tF s) (hA : ∀ q, s.heap.size ≤ q → A q) (hRf : 12 ≤ R.frames) (hRl : 248 ≤ R.locals) (hret : ∀ (r : Int32) (t_thrown : Int32) (t_f : Nat → Int32) (H : Heap) (locs : List Loc) (ls : Array Slot) (pc : Nat), va_P G vwCl (w_X11_keepers Y h_t B_t t_thrown t_n t_modulus t_rows t_strands t_letters t_listedMany t_listN t_listWhat t_f t_table) H → va_D A (w_X11_keepers Y h_t B_t t_thrown t_n t_modulus t_rows t_strands t_letters t_listedMany t_listN t_listWhat t_f t_table) → va_S A s.heap H locs → K r t_thrown t_f → decode cX11_keepers pc = .ok (.ireturn, 1) → W p l e R s m args below meth c H locs 0 0 Q (F0 m pc ls [.int r])) (hP : va_P G vwCl (w_X11_keepers Y h_t B_t t_thrown t_n t_modulus t_rows t_strands t_letters t_listedMany t_listN t_listWhat t_f t_table) s.heap) (hD : va_D A (w_X11_keepers Y h_t B_t t_thrown t_n t_modulus t_rows t_strands t_letters t_listedMany t_listN t_listWhat t_f t_table)) (h : pX11_keepers t_thrown t_n t_f t_table K) : W p l e R s m args below meth c s.heap [] 0 0 Q (entryFrame m ([.ref h_t] : List Value).toArray 3) := by
  have inX11 : ∀ w ∈ u_ws RX11 TX11 29, w ∈ wsX11_keepers := by decide +kernel
  have hf13 := hts (.fieldLink RX11 13 "RackBenchModel" "table" "[I") (by decide +kernel)
  have hf23 := hts (.fieldLink RX11 23 "RackBenchModel" "f" "[I") (by decide +kernel)
  have hf83 := hts (.fieldLink RX11 83 "RackBenchModel" "thrown" "I") (by decide +kernel)
  have hf9 := hts (.fieldLink RX11 9 "RackBenchModel" "n" "I") (by decide +kernel)
  have hl := lv_entry ([.ref h_t]) (n := 3) (Nat.le_of_ble_eq_true rfl)
  rw [lg_entry_eq]
  generalize (lg_sl ([.ref h_t]) ++ List.replicate (3 - (lg_sl ([.ref h_t])).length) Slot.unset).toArray = ls at hl ⊢
  have hl : lv_has ls 3 [(0, .ref h_t)] := hl
  generalize hH0 : s.heap = H at hP ⊢
  have hS : va_S A s.heap H [] := by rw [← hH0]; exact va_S.rf
  clear hH0
  generalize ([] : List Loc) = locs at hS ⊢
  refine lv_aload_n hx hb dX11_keepers_0 rfl (lv_at hl 0 rfl) ?_
  refine lv_iconst (v := 0) hx hb dX11_keepers_1 (by decide) ?_
  refine va_put (D := G) (ci := 10) (v := .int (0 : Int32)) (ty := .int) (C := RX11) (T := TX11) (N := 29) hx hb hts inX11 tyX11 tyX11_ok nmX11 hown hK hP hD hS 0 rfl rfl 0 (by decide) hf83 (fun _ h9 => h9) rfl (by decide +kernel) rfl rfl (Nat.le_of_ble_eq_true rfl) dX11_keepers_2 (fun H locs hP hD hS => ?_)
  have hP : va_P G vwCl (w_X11_keepers Y h_t B_t (0 : Int32) t_n t_modulus t_rows t_strands t_letters t_listedMany t_listN t_listWhat t_f t_table) H := hP
  have hD : va_D A (w_X11_keepers Y h_t B_t (0 : Int32) t_n t_modulus t_rows t_strands t_letters t_listedMany t_listN t_listWhat t_f t_table) := hD
  refine lv_iconst (v := 0) hx hb dX11_keepers_5 (by decide) ?_
  refine lv_istore_n (lv' := [(1, .int (0 : Int32)), (0, .ref h_t)]) hx hb dX11_keepers_6 rfl hl (by decide) rfl (fun ls hl => ?_)
  refine lv_iconst (v := 0) hx hb dX11_keepers_7 (by decide) ?_
  refine lv_istore_n (lv' := [(2, .int (0 : Int32)), (1, .int (0 : Int32)), (0, .ref h_t)]) hx hb dX11_keepers_8 rfl hl (by decide) rfl (fun ls hl => ?_)
  obtain ⟨I9, m9, hI9, hB9⟩ := h
  have L9 : ∀ (t_thrown : Int32) (I9 : Int32 → Int32 → (Nat → Int32) → Prop) (m9 : Int32 → Int32 → (Nat → Int32) → Nat), (∀ (x1 : Int32) (x2 : Int32) (t_f : Nat → Int32), I9 x1 x2 t_f → pX11_keepers_9 t_n t_table K t_thrown x1 x2 t_f (fun x1' x2' t_f' => I9 x1' x2' t_f' ∧ m9 x1' x2' t_f' < m9 x1 x2 t_f)) → ∀ (n : Nat) (x1 : Int32) (x2 : Int32) (t_f : Nat → Int32) (H : Heap) (locs : List Loc) (ls : Array Slot), I9 x1 x2 t_f → m9 x1 x2 t_f < n → va_P G vwCl (w_X11_keepers Y h_t B_t t_thrown t_n t_modulus t_rows t_strands t_letters t_listedMany t_listN t_listWhat t_f t_table) H → va_D A (w_X11_keepers Y h_t B_t t_thrown t_n t_modulus t_rows t_strands t_letters t_listedMany t_listN t_listWhat t_f t_table) → va_S A s.heap H locs → lv_has ls 3 [(0, .ref h_t), (1, .int x1), (2, .int x2)] → W p l e R s m args below meth c H locs 0 0 Q (F0 m 9 ls []) := by
    intro t_thrown I9 m9 hB9 n
    induction n with
    | zero => intro x1 x2 t_f H locs ls _ hm; exact absurd hm (Nat.not_lt_zero _)
    | succ n ih =>
      intro x1 x2 t_f H locs ls hI hm hP hD hS hl
      obtain ⟨R9, h, rec9⟩ : ∃ R9 : Int32 → Int32 → (Nat → Int32) → Prop, pX11_keepers_9 t_n t_table K t_thrown x1 x2 t_f R9 ∧ ∀ (x1 : Int32) (x2 : Int32) (t_f : Nat → Int32) (H : Heap) (locs : List Loc) (ls : Array Slot), R9 x1 x2 t_f → va_P G vwCl (w_X11_keepers Y h_t B_t t_thrown t_n t_modulus t_rows t_strands t_letters t_listedMany t_listN t_listWhat t_f t_table) H → va_D A (w_X11_keepers Y h_t B_t t_thrown t_n t_modulus t_rows t_strands t_letters t_listedMany t_listN t_listWhat t_f t_table) → va_S A s.heap H locs → lv_has ls 3 [(0, .ref h_t), (1, .int x1), (2, .int x2)] → W p l e R s m args below meth c H locs 0 0 Q (F0 m 9 ls []) := ⟨_, hB9 x1 x2 t_f hI, fun x1 x2 t_f H locs ls hh hP hD hS hl => ih x1 x2 t_f H locs ls hh.1 (Nat.lt_of_lt_of_le hh.2 (Nat.le_of_lt_succ hm)) hP hD hS hl⟩
      refine lv_iload_n hx hb dX11_keepers_9 rfl (lv_at hl 2 rfl) ?_
      refine lv_aload_n hx hb dX11_keepers_10 rfl (lv_at hl 0 rfl) ?_
      refine va_get (D := G) (ci := 10) (v := .int t_n) (C := RX11) (T := TX11) (N := 29) hx hb hts inX11 hown hK hP 0 rfl rfl 1 (by decide) hf9 (fun _ h9 => h9) rfl dX11_keepers_11 ?_
      refine mc_iS ⟨hx, hb, hml, hown, hts⟩ hK hE hA hP hD hS (c_X11_factorial 10 l G Y tF H.size t_n h) (va_cwS 1 hts gX11_keepers_X11_factorial rfl rfl rfl (by decide +kernel) ⟨Nat.le_trans (by decide) hRf, Nat.le_trans (by decide) hRl⟩) (fun u => (w_X11_keepers Y h_t B_t t_thrown t_n t_modulus t_rows t_strands t_letters t_listedMany t_listN t_listWhat t_f t_table)) [] [0, 1, 2] [0, 1, 2] rfl rfl rfl rfl (by decide) (fun _ => rfl) rfl rfl hl.1 rfl (Nat.le_of_ble_eq_true rfl) dX11_keepers_14 (fun r14 u H locs h hP hD hS => ?_)
      try dsimp only at h
      have hP : va_P G vwCl (w_X11_keepers Y h_t B_t t_thrown t_n t_modulus t_rows t_strands t_letters t_listedMany t_listN t_listWhat t_f t_table) H := hP
      have hD : va_D A (w_X11_keepers Y h_t B_t t_thrown t_n t_modulus t_rows t_strands t_letters t_listedMany t_listN t_listWhat t_f t_table) := hD
      obtain ⟨ht, hf⟩ := h
      refine lv_icmp_ge (tgt := 58) hx hb dX11_keepers_17 (by decide) (fun c9 => ?_) (fun c9 => ?_)
      · have h := ht c9
        refine lv_iload_n hx hb dX11_keepers_58 rfl (lv_at hl 1 rfl) ?_
        exact hret x1 t_thrown t_f H locs ls _ hP hD hS h dX11_keepers_59
      · have h := hf c9
        refine lv_aload_n hx hb dX11_keepers_20 rfl (lv_at hl 0 rfl) ?_
        refine va_get (D := G) (ci := 10) (v := .int t_n) (C := RX11) (T := TX11) (N := 29) hx hb hts inX11 hown hK hP 0 rfl rfl 1 (by decide) hf9 (fun _ h9 => h9) rfl dX11_keepers_21 ?_
        refine lv_iload_n hx hb dX11_keepers_24 rfl (lv_at hl 2 rfl) ?_
        refine lv_aload_n hx hb dX11_keepers_25 rfl (lv_at hl 0 rfl) ?_
        refine va_get (D := G) (ci := 10) (v := .ref (B_t 5)) (C := RX11) (T := TX11) (N := 29) hx hb hts inX11 hown hK hP 0 rfl rfl 5 (by decide) hf23 (fun _ h9 => h9) rfl dX11_keepers_26 ?_
        refine mc_vS ⟨hx, hb, hml, hown, hts⟩ hK hE hA hP hD hS (c_X11_permutation l G Y tF H.size (B_t 5) 8 t_f t_n x2 h) (va_cwS 3 hts gX11_keepers_X11_permutation rfl rfl rfl (by decide +kernel) ⟨Nat.le_trans (by decide) hRf, Nat.le_trans (by decide) hRl⟩) (fun u => (w_X11_keepers Y h_t B_t t_thrown t_n t_modulus t_rows t_strands t_letters t_listedMany t_listN t_listWhat u t_table)) [1] [0, 2] [0, 2, 1] rfl rfl rfl rfl (by decide) (fun _ => rfl) rfl rfl hl.1 rfl (Nat.le_of_ble_eq_true rfl) dX11_keepers_29 (fun u H locs h hP hD hS => ?_)
        obtain ⟨t_f_29, rfl⟩ : ∃ z, z = u := ⟨_, rfl⟩
        try dsimp only at h
        have hP : va_P G vwCl (w_X11_keepers Y h_t B_t t_thrown t_n t_modulus t_rows t_strands t_letters t_listedMany t_listN t_listWhat t_f_29 t_table) H := hP
        have hD : va_D A (w_X11_keepers Y h_t B_t t_thrown t_n t_modulus t_rows t_strands t_letters t_listedMany t_listN t_listWhat t_f_29 t_table) := hD
        refine lv_iload_n hx hb dX11_keepers_32 rfl (lv_at hl 1 rfl) ?_
        refine lv_aload_n hx hb dX11_keepers_33 rfl (lv_at hl 0 rfl) ?_
        refine lv_aload_n hx hb dX11_keepers_34 rfl (lv_at hl 0 rfl) ?_
        refine va_get (D := G) (ci := 10) (v := .ref (B_t 2)) (C := RX11) (T := TX11) (N := 29) hx hb hts inX11 hown hK hP 0 rfl rfl 2 (by decide) hf13 (fun _ h9 => h9) rfl dX11_keepers_35 ?_
        refine lv_iconst (v := 0) hx hb dX11_keepers_38 (by decide) ?_
        refine mc_iV ⟨hx, hb, hml, hown, hts⟩ hK hE hA hP hD hS (c_X11_makes_al l G Y tF H.size h_t B_t t_thrown t_n t_modulus t_rows t_strands t_letters t_listedMany t_listN t_listWhat t_f_29 t_table (0 : Int32) h) (cwV 2 hts gX11_keepers_X11_makes rfl rfl rfl (by decide +kernel) ⟨Nat.le_trans (by decide) hRf, Nat.le_trans (by decide) hRl⟩) (fun u => (w_X11_keepers Y h_t B_t t_thrown t_n t_modulus t_rows t_strands t_letters t_listedMany t_listN t_listWhat t_f_29 t_table)) [0, 1, 2] [] [0, 1, 2] rfl rfl rfl rfl (by decide) (fun _ => rfl) rfl 0 10 rfl rfl rfl rfl hl.1 rfl (Nat.le_of_ble_eq_true rfl) dX11_keepers_39 (fun r39 u H locs h hP hD hS => ?_)
        try dsimp only at h
        have hP : va_P G vwCl (w_X11_keepers Y h_t B_t t_thrown t_n t_modulus t_rows t_strands t_letters t_listedMany t_listN t_listWhat t_f_29 t_table) H := hP
        have hD : va_D A (w_X11_keepers Y h_t B_t t_thrown t_n t_modulus t_rows t_strands t_letters t_listedMany t_listN t_listWhat t_f_29 t_table) := hD
        obtain ⟨ht, hf⟩ := h
        refine lv_if_eq (tgt := 49) hx hb dX11_keepers_42 (by decide) (fun c9 => ?_) (fun c9 => ?_)
        · have h := ht c9
          refine lv_iconst (v := 0) hx hb dX11_keepers_49 (by decide) ?_
          refine lv_iadd hx hb dX11_keepers_50 ?_
          refine lv_istore_n (lv' := [(1, .int (x1 + (0 : Int32))), (0, .ref h_t), (2, .int x2)]) hx hb dX11_keepers_51 rfl hl (by decide) rfl (fun ls hl => ?_)
          refine lv_iinc (v := (x2 + 1)) (lv' := [(2, .int (x2 + 1)), (1, .int (x1 + (0 : Int32))), (0, .ref h_t)]) hx hb dX11_keepers_52 hl (k := 2) rfl rfl (by decide) rfl (fun ls hl => ?_)
          refine lv_goto (tgt := 9) hx hb dX11_keepers_55 (by decide) ?_
          exact rec9 (x1 + (0 : Int32)) (x2 + 1) t_f_29 H locs ls h hP hD hS (lv_sub hl [2, 1, 0] rfl)
        · have h := hf c9
          refine lv_iconst (v := 1) hx hb dX11_keepers_45 (by decide) ?_
          refine lv_goto (tgt := 50) hx hb dX11_keepers_46 (by decide) ?_
          refine lv_iadd hx hb dX11_keepers_50 ?_
          refine lv_istore_n (lv' := [(1, .int (x1 + (1 : Int32))), (0, .ref h_t), (2, .int x2)]) hx hb dX11_keepers_51 rfl hl (by decide) rfl (fun ls hl => ?_)
          refine lv_iinc (v := (x2 + 1)) (lv' := [(2, .int (x2 + 1)), (1, .int (x1 + (1 : Int32))), (0, .ref h_t)]) hx hb dX11_keepers_52 hl (k := 2) rfl rfl (by decide) rfl (fun ls hl => ?_)
          refine lv_goto (tgt := 9) hx hb dX11_keepers_55 (by decide) ?_
          exact rec9 (x1 + (1 : Int32)) (x2 + 1) t_f_29 H locs ls h hP hD hS (lv_sub hl [2, 1, 0] rfl)
  exact L9 (0 : Int32) I9 m9 hB9 _ (0 : Int32) (0 : Int32) t_f H locs ls hI9 (Nat.lt_succ_self _) hP hD hS (lv_sub hl [2, 1, 0] rfl)

set_option maxHeartbeats 20000000 in
set_option maxRecDepth 100000 in
theorem c_X11_keepers (l : Launch) (G : va_G) (Y : Nat → ClassId) (tF sz : Nat) (h_t : Nat) (B_t : Nat → Nat) (t_thrown : Int32) (t_n : Int32) (t_modulus : Int32) (t_rows : Int32) (t_strands : Int32) (t_letters : Int32) (t_listedMany : Int32) (t_listN : Int32) (t_listWhat : Int32) (t_f : Nat → Int32) (t_table : Nat → Int32) {K : Int32 → Int32 → (Nat → Int32) → Prop} (h : pX11_keepers t_thrown t_n t_f t_table K) : Met l yX11_keepers wsX11_keepers ({ frames := 12, cells := 0, slots := 0, locals := 248 }) (PcM G Y tF sz (w_X11_keepers Y h_t B_t t_thrown t_n t_modulus t_rows t_strands t_letters t_listedMany t_listN t_listWhat t_f t_table) [.ref h_t]) (va_Qi (fun (r : Int32) (u : Int32 × (Nat → Int32)) => K r u.1 u.2) (fun u t => BM G Y (va_A (w_X11_keepers Y h_t B_t t_thrown t_n t_modulus t_rows t_strands t_letters t_listedMany t_listN t_listWhat t_f t_table) sz) (w_X11_keepers Y h_t B_t u.1 t_n t_modulus t_rows t_strands t_letters t_listedMany t_listN t_listWhat u.2 t_table) t) (va_A (w_X11_keepers Y h_t B_t t_thrown t_n t_modulus t_rows t_strands t_letters t_listedMany t_listN t_listWhat t_f t_table) sz)) 0 0 (va_A (w_X11_keepers Y h_t B_t t_thrown t_n t_modulus t_rows t_strands t_letters t_listedMany t_listN t_listWhat t_f t_table) sz) := by
  refine Met.ofW (cc := cX11_keepers) (maxL := 3) (ret := (some .int)) (by decide +kernel) rfl ?_
  intro p e s m args below meth c s₁ B hml hv
  obtain ⟨rfl, hsz, hP, hK, hD0, hE⟩ := hv
  have hts := atoms_spec (ws := wsX11_keepers) B.pre
  have hown : s.vm.findClass RX11 = some m.cls := findClass_of_methodNamed B.named
  have hlocks := B.notSynchronized
  subst hsz
  have hD := hD0.self (sz := s.heap.size)
  exact wk_X11_keepers h_t B_t t_thrown t_n t_modulus t_rows t_strands t_letters t_listedMany t_listN t_listWhat t_f t_table B.exec B.bytes hml hown hts hK hE (fun q h => Or.inr h) (Nat.le_refl _) (Nat.le_refl _) (fun r t_thrown t_f H locs ls pc hP hD hS hk hd => W.iret (v := r) B.exec B.bytes B.returns (fun t ht hW => ⟨⟨r, (t_thrown, t_f), rfl, hk, by rw [ht]; exact hP, va_K.moved hW.alike hK, hD⟩, hS.F ht⟩) hS.2.2 hd) hP hD h

abbrev w_X11_isMadeAhead (Y : Nat → ClassId) (h_t : Nat) (B_t : Nat → Nat) (t_thrown : Int32) (t_n : Int32) (t_modulus : Int32) (t_rows : Int32) (t_strands : Int32) (t_letters : Int32) (t_listedMany : Int32) (t_listN : Int32) (t_listWhat : Int32) (t_best : Nat → Int32) (t_made : Nat → Int32) : va_W := [(h_t, .inr (10, [.int t_thrown, .int t_n, .ref (B_t 2), .int t_modulus, .ref (B_t 4), .ref (B_t 5), .ref (B_t 6), .ref (B_t 7), .ref (B_t 8), .ref (B_t 9), .ref (B_t 10), .int t_rows, .ref (B_t 12), .ref (B_t 13), .ref (B_t 14), .ref (B_t 15), .ref (B_t 16), .ref (B_t 17), .ref (B_t 18), .ref (B_t 19), .int t_strands, .int t_letters, .ref (B_t 22), .ref (B_t 23), .ref (B_t 24), .ref (B_t 25), .int t_listedMany, .int t_listN, .int t_listWhat])), ((B_t 16), .inl (Y 0, 64, .inl t_best)), ((B_t 17), .inl (Y 0, 64, .inl t_made))]

set_option maxHeartbeats 20000000 in
set_option maxRecDepth 100000 in
theorem wk_X11_isMadeAhead {p : Program} {l : Launch} {e : Env} {R : Room} {s : State} {m : MethodId} {args : Array Value} {below : List Frame} {meth : Method} {c : Code} {Q : State → Prop} {G : va_G} {Y : Nat → ClassId} {tF : Nat} {A : Nat → Prop} (h_t : Nat) (B_t : Nat → Nat) (t_thrown : Int32) (t_n : Int32) (t_modulus : Int32) (t_rows : Int32) (t_strands : Int32) (t_letters : Int32) (t_listedMany : Int32) (t_listN : Int32) (t_listWhat : Int32) (t_best : Nat → Int32) (t_made : Nat → Int32) {K : Int32 → Prop} (hx : p.tables.exec = Jvm.exec) (hb : c.code = cX11_isMadeAhead) (hml : c.maxLocals = 4) (hown : s.vm.findClass RX11 = some m.cls) (hts : ∀ w ∈ wsX11_isMadeAhead, w.before args s = true) (hK : va_K G vwCl (tyL Y) s) (hE : Ev A tF s) (hA : ∀ q, s.heap.size ≤ q → A q) (hRf : 0 ≤ R.frames) (hRl : 0 ≤ R.locals) (hret : ∀ (r : Int32)  (H : Heap) (locs : List Loc) (ls : Array Slot) (pc : Nat), va_P G vwCl (w_X11_isMadeAhead Y h_t B_t t_thrown t_n t_modulus t_rows t_strands t_letters t_listedMany t_listN t_listWhat t_best t_made) H → va_D A (w_X11_isMadeAhead Y h_t B_t t_thrown t_n t_modulus t_rows t_strands t_letters t_listedMany t_listN t_listWhat t_best t_made) → va_S A s.heap H locs → zb r → K r → decode cX11_isMadeAhead pc = .ok (.ireturn, 1) → W p l e R s m args below meth c H locs 0 0 Q (F0 m pc ls [.int r])) (hP : va_P G vwCl (w_X11_isMadeAhead Y h_t B_t t_thrown t_n t_modulus t_rows t_strands t_letters t_listedMany t_listN t_listWhat t_best t_made) s.heap) (hD : va_D A (w_X11_isMadeAhead Y h_t B_t t_thrown t_n t_modulus t_rows t_strands t_letters t_listedMany t_listN t_listWhat t_best t_made)) (h : pX11_isMadeAhead t_n t_best t_made K) : W p l e R s m args below meth c s.heap [] 0 0 Q (entryFrame m ([.ref h_t] : List Value).toArray 4) := by
  have inX11 : ∀ w ∈ u_ws RX11 TX11 29, w ∈ wsX11_isMadeAhead := by decide +kernel
  have hf55 := hts (.fieldLink RX11 55 "RackBenchModel" "best" "[I") (by decide +kernel)
  have hf58 := hts (.fieldLink RX11 58 "RackBenchModel" "made" "[I") (by decide +kernel)
  have hf9 := hts (.fieldLink RX11 9 "RackBenchModel" "n" "I") (by decide +kernel)
  have hl := lv_entry ([.ref h_t]) (n := 4) (Nat.le_of_ble_eq_true rfl)
  rw [lg_entry_eq]
  generalize (lg_sl ([.ref h_t]) ++ List.replicate (4 - (lg_sl ([.ref h_t])).length) Slot.unset).toArray = ls at hl ⊢
  have hl : lv_has ls 4 [(0, .ref h_t)] := hl
  generalize hH0 : s.heap = H at hP ⊢
  have hS : va_S A s.heap H [] := by rw [← hH0]; exact va_S.rf
  clear hH0
  generalize ([] : List Loc) = locs at hS ⊢
  refine lv_iconst (v := 0) hx hb dX11_isMadeAhead_0 (by decide) ?_
  refine lv_istore_n (lv' := [(1, .int (0 : Int32)), (0, .ref h_t)]) hx hb dX11_isMadeAhead_1 rfl hl (by decide) rfl (fun ls hl => ?_)
  obtain ⟨I2, m2, hI2, hB2⟩ := h
  have L2 : ∀  (I2 : Int32 → Prop) (m2 : Int32 → Nat), (∀ (x1 : Int32), I2 x1 → pX11_isMadeAhead_2 t_n t_best t_made K x1 (fun x1' => I2 x1' ∧ m2 x1' < m2 x1)) → ∀ (n : Nat) (x1 : Int32) (H : Heap) (locs : List Loc) (ls : Array Slot), I2 x1 → m2 x1 < n → va_P G vwCl (w_X11_isMadeAhead Y h_t B_t t_thrown t_n t_modulus t_rows t_strands t_letters t_listedMany t_listN t_listWhat t_best t_made) H → va_D A (w_X11_isMadeAhead Y h_t B_t t_thrown t_n t_modulus t_rows t_strands t_letters t_listedMany t_listN t_listWhat t_best t_made) → va_S A s.heap H locs → lv_has ls 4 [(0, .ref h_t), (1, .int x1)] → W p l e R s m args below meth c H locs 0 0 Q (F0 m 2 ls []) := by
    intro  I2 m2 hB2 n
    induction n with
    | zero => intro x1 H locs ls _ hm; exact absurd hm (Nat.not_lt_zero _)
    | succ n ih =>
      intro x1 H locs ls hI hm hP hD hS hl
      obtain ⟨R2, h, rec2⟩ : ∃ R2 : Int32 → Prop, pX11_isMadeAhead_2 t_n t_best t_made K x1 R2 ∧ ∀ (x1 : Int32) (H : Heap) (locs : List Loc) (ls : Array Slot), R2 x1 → va_P G vwCl (w_X11_isMadeAhead Y h_t B_t t_thrown t_n t_modulus t_rows t_strands t_letters t_listedMany t_listN t_listWhat t_best t_made) H → va_D A (w_X11_isMadeAhead Y h_t B_t t_thrown t_n t_modulus t_rows t_strands t_letters t_listedMany t_listN t_listWhat t_best t_made) → va_S A s.heap H locs → lv_has ls 4 [(0, .ref h_t), (1, .int x1)] → W p l e R s m args below meth c H locs 0 0 Q (F0 m 2 ls []) := ⟨_, hB2 x1 hI, fun x1 H locs ls hh hP hD hS hl => ih x1 H locs ls hh.1 (Nat.lt_of_lt_of_le hh.2 (Nat.le_of_lt_succ hm)) hP hD hS hl⟩
      refine lv_iload_n hx hb dX11_isMadeAhead_2 rfl (lv_at hl 1 rfl) ?_
      refine lv_aload_n hx hb dX11_isMadeAhead_3 rfl (lv_at hl 0 rfl) ?_
      refine va_get (D := G) (ci := 10) (v := .int t_n) (C := RX11) (T := TX11) (N := 29) hx hb hts inX11 hown hK hP 0 rfl rfl 1 (by decide) hf9 (fun _ h9 => h9) rfl dX11_isMadeAhead_4 ?_
      obtain ⟨ht, hf⟩ := h
      refine lv_icmp_ge (tgt := 75) hx hb dX11_isMadeAhead_7 (by decide) (fun c9 => ?_) (fun c9 => ?_)
      · have h := ht c9
        refine lv_iconst (v := 0) hx hb dX11_isMadeAhead_75 (by decide) ?_
        obtain ⟨hz, h⟩ := h
        exact hret (0 : Int32)  H locs ls _ hP hD hS hz h dX11_isMadeAhead_76
      · have h := hf c9
        refine lv_iconst (v := 0) hx hb dX11_isMadeAhead_10 (by decide) ?_
        refine lv_istore_n (lv' := [(2, .int (0 : Int32)), (0, .ref h_t), (1, .int x1)]) hx hb dX11_isMadeAhead_11 rfl hl (by decide) rfl (fun ls hl => ?_)
        obtain ⟨I12, m12, hI12, hB12⟩ := h
        have L12 : ∀ (x1 : Int32) (I12 : Int32 → Prop) (m12 : Int32 → Nat), (∀ (x2 : Int32), I12 x2 → pX11_isMadeAhead_12 t_n t_best t_made R2 K x1 x2 (fun x2' => I12 x2' ∧ m12 x2' < m12 x2)) → ∀ (n : Nat) (x2 : Int32) (H : Heap) (locs : List Loc) (ls : Array Slot), I12 x2 → m12 x2 < n → va_P G vwCl (w_X11_isMadeAhead Y h_t B_t t_thrown t_n t_modulus t_rows t_strands t_letters t_listedMany t_listN t_listWhat t_best t_made) H → va_D A (w_X11_isMadeAhead Y h_t B_t t_thrown t_n t_modulus t_rows t_strands t_letters t_listedMany t_listN t_listWhat t_best t_made) → va_S A s.heap H locs → lv_has ls 4 [(0, .ref h_t), (1, .int x1), (2, .int x2)] → W p l e R s m args below meth c H locs 0 0 Q (F0 m 12 ls []) := by
          intro x1 I12 m12 hB12 n
          induction n with
          | zero => intro x2 H locs ls _ hm; exact absurd hm (Nat.not_lt_zero _)
          | succ n ih =>
            intro x2 H locs ls hI hm hP hD hS hl
            obtain ⟨R12, h, rec12⟩ : ∃ R12 : Int32 → Prop, pX11_isMadeAhead_12 t_n t_best t_made R2 K x1 x2 R12 ∧ ∀ (x2 : Int32) (H : Heap) (locs : List Loc) (ls : Array Slot), R12 x2 → va_P G vwCl (w_X11_isMadeAhead Y h_t B_t t_thrown t_n t_modulus t_rows t_strands t_letters t_listedMany t_listN t_listWhat t_best t_made) H → va_D A (w_X11_isMadeAhead Y h_t B_t t_thrown t_n t_modulus t_rows t_strands t_letters t_listedMany t_listN t_listWhat t_best t_made) → va_S A s.heap H locs → lv_has ls 4 [(0, .ref h_t), (1, .int x1), (2, .int x2)] → W p l e R s m args below meth c H locs 0 0 Q (F0 m 12 ls []) := ⟨_, hB12 x2 hI, fun x2 H locs ls hh hP hD hS hl => ih x2 H locs ls hh.1 (Nat.lt_of_lt_of_le hh.2 (Nat.le_of_lt_succ hm)) hP hD hS hl⟩
            refine lv_iload_n hx hb dX11_isMadeAhead_12 rfl (lv_at hl 2 rfl) ?_
            refine lv_aload_n hx hb dX11_isMadeAhead_13 rfl (lv_at hl 0 rfl) ?_
            refine va_get (D := G) (ci := 10) (v := .int t_n) (C := RX11) (T := TX11) (N := 29) hx hb hts inX11 hown hK hP 0 rfl rfl 1 (by decide) hf9 (fun _ h9 => h9) rfl dX11_isMadeAhead_14 ?_
            obtain ⟨ht, hf⟩ := h
            refine lv_icmp_ge (tgt := 69) hx hb dX11_isMadeAhead_17 (by decide) (fun c9 => ?_) (fun c9 => ?_)
            · have h := ht c9
              refine lv_iinc (v := (x1 + 1)) (lv' := [(1, .int (x1 + 1)), (0, .ref h_t), (2, .int x2)]) hx hb dX11_isMadeAhead_69 hl (k := 1) rfl rfl (by decide) rfl (fun ls hl => ?_)
              refine lv_goto (tgt := 2) hx hb dX11_isMadeAhead_72 (by decide) ?_
              exact rec2 (x1 + 1) H locs ls h hP hD hS (lv_sub hl [1, 0] rfl)
            · have h := hf c9
              refine lv_bipush (v := 8) hx hb dX11_isMadeAhead_20 (by decide) ?_
              refine lv_iload_n hx hb dX11_isMadeAhead_22 rfl (lv_at hl 1 rfl) ?_
              refine lv_imul hx hb dX11_isMadeAhead_23 ?_
              refine lv_iload_n hx hb dX11_isMadeAhead_24 rfl (lv_at hl 2 rfl) ?_
              refine lv_iadd hx hb dX11_isMadeAhead_25 ?_
              refine lv_istore_n (lv' := [(3, .int (((8 : Int32) * x1) + x2)), (0, .ref h_t), (1, .int x1), (2, .int x2)]) hx hb dX11_isMadeAhead_26 rfl hl (by decide) rfl (fun ls hl => ?_)
              refine lv_aload_n hx hb dX11_isMadeAhead_27 rfl (lv_at hl 1 rfl) ?_
              refine va_get (D := G) (ci := 10) (v := .ref (B_t 17)) (C := RX11) (T := TX11) (N := 29) hx hb hts inX11 hown hK hP 0 rfl rfl 17 (by decide) hf58 (fun _ h9 => h9) rfl dX11_isMadeAhead_28 ?_
              refine lv_iload_n hx hb dX11_isMadeAhead_31 rfl (lv_at hl 0 rfl) ?_
              obtain ⟨hin, h⟩ := h
              refine va_iald hx hb hK hP 2 0 rfl rfl hin dX11_isMadeAhead_32 ?_
              refine lv_aload_n hx hb dX11_isMadeAhead_33 rfl (lv_at hl 1 rfl) ?_
              refine va_get (D := G) (ci := 10) (v := .ref (B_t 16)) (C := RX11) (T := TX11) (N := 29) hx hb hts inX11 hown hK hP 0 rfl rfl 16 (by decide) hf55 (fun _ h9 => h9) rfl dX11_isMadeAhead_34 ?_
              refine lv_iload_n hx hb dX11_isMadeAhead_37 rfl (lv_at hl 0 rfl) ?_
              obtain ⟨hin, h⟩ := h
              refine va_iald hx hb hK hP 1 0 rfl rfl hin dX11_isMadeAhead_38 ?_
              obtain ⟨ht, hf⟩ := h
              refine lv_icmp_eq (tgt := 63) hx hb dX11_isMadeAhead_39 (by decide) (fun c9 => ?_) (fun c9 => ?_)
              · have h := ht c9
                refine lv_iinc (v := (x2 + 1)) (lv' := [(2, .int (x2 + 1)), (3, .int (((8 : Int32) * x1) + x2)), (0, .ref h_t), (1, .int x1)]) hx hb dX11_isMadeAhead_63 hl (k := 3) rfl rfl (by decide) rfl (fun ls hl => ?_)
                refine lv_goto (tgt := 12) hx hb dX11_isMadeAhead_66 (by decide) ?_
                exact rec12 (x2 + 1) H locs ls h hP hD hS (lv_sub hl [2, 3, 0] rfl)
              · have h := hf c9
                refine lv_aload_n hx hb dX11_isMadeAhead_42 rfl (lv_at hl 1 rfl) ?_
                refine va_get (D := G) (ci := 10) (v := .ref (B_t 17)) (C := RX11) (T := TX11) (N := 29) hx hb hts inX11 hown hK hP 0 rfl rfl 17 (by decide) hf58 (fun _ h9 => h9) rfl dX11_isMadeAhead_43 ?_
                refine lv_iload_n hx hb dX11_isMadeAhead_46 rfl (lv_at hl 0 rfl) ?_
                obtain ⟨hin, h⟩ := h
                refine va_iald hx hb hK hP 2 0 rfl rfl hin dX11_isMadeAhead_47 ?_
                refine lv_aload_n hx hb dX11_isMadeAhead_48 rfl (lv_at hl 1 rfl) ?_
                refine va_get (D := G) (ci := 10) (v := .ref (B_t 16)) (C := RX11) (T := TX11) (N := 29) hx hb hts inX11 hown hK hP 0 rfl rfl 16 (by decide) hf55 (fun _ h9 => h9) rfl dX11_isMadeAhead_49 ?_
                refine lv_iload_n hx hb dX11_isMadeAhead_52 rfl (lv_at hl 0 rfl) ?_
                obtain ⟨hin, h⟩ := h
                refine va_iald hx hb hK hP 1 0 rfl rfl hin dX11_isMadeAhead_53 ?_
                obtain ⟨ht, hf⟩ := h
                refine lv_icmp_ge (tgt := 61) hx hb dX11_isMadeAhead_54 (by decide) (fun c9 => ?_) (fun c9 => ?_)
                · have h := ht c9
                  refine lv_iconst (v := 0) hx hb dX11_isMadeAhead_61 (by decide) ?_
                  obtain ⟨hz, h⟩ := h
                  exact hret (0 : Int32)  H locs ls _ hP hD hS hz h dX11_isMadeAhead_62
                · have h := hf c9
                  refine lv_iconst (v := 1) hx hb dX11_isMadeAhead_57 (by decide) ?_
                  refine lv_goto (tgt := 62) hx hb dX11_isMadeAhead_58 (by decide) ?_
                  obtain ⟨hz, h⟩ := h
                  exact hret (1 : Int32)  H locs ls _ hP hD hS hz h dX11_isMadeAhead_62
        exact L12 x1 I12 m12 hB12 _ (0 : Int32) H locs ls hI12 (Nat.lt_succ_self _) hP hD hS (lv_sub hl [1, 2, 0] rfl)
  exact L2  I2 m2 hB2 _ (0 : Int32) H locs ls hI2 (Nat.lt_succ_self _) hP hD hS (lv_sub hl [1, 0] rfl)

set_option maxHeartbeats 20000000 in
set_option maxRecDepth 100000 in
theorem c_X11_isMadeAhead (l : Launch) (G : va_G) (Y : Nat → ClassId) (tF sz : Nat) (h_t : Nat) (B_t : Nat → Nat) (t_thrown : Int32) (t_n : Int32) (t_modulus : Int32) (t_rows : Int32) (t_strands : Int32) (t_letters : Int32) (t_listedMany : Int32) (t_listN : Int32) (t_listWhat : Int32) (t_best : Nat → Int32) (t_made : Nat → Int32) {K : Int32 → Prop} (h : pX11_isMadeAhead t_n t_best t_made K) : Met l yX11_isMadeAhead wsX11_isMadeAhead ({ frames := 0, cells := 0, slots := 0, locals := 0 }) (PcM G Y tF sz (w_X11_isMadeAhead Y h_t B_t t_thrown t_n t_modulus t_rows t_strands t_letters t_listedMany t_listN t_listWhat t_best t_made) [.ref h_t]) (va_Qi (fun (r : Int32) (u : Unit) => K r ) (fun u t => BM G Y (va_A (w_X11_isMadeAhead Y h_t B_t t_thrown t_n t_modulus t_rows t_strands t_letters t_listedMany t_listN t_listWhat t_best t_made) sz) (w_X11_isMadeAhead Y h_t B_t t_thrown t_n t_modulus t_rows t_strands t_letters t_listedMany t_listN t_listWhat t_best t_made) t) (va_A (w_X11_isMadeAhead Y h_t B_t t_thrown t_n t_modulus t_rows t_strands t_letters t_listedMany t_listN t_listWhat t_best t_made) sz)) 0 0 (va_A (w_X11_isMadeAhead Y h_t B_t t_thrown t_n t_modulus t_rows t_strands t_letters t_listedMany t_listN t_listWhat t_best t_made) sz) := by
  refine Met.ofW (cc := cX11_isMadeAhead) (maxL := 4) (ret := (some .boolean)) (by decide +kernel) rfl ?_
  intro p e s m args below meth c s₁ B hml hv
  obtain ⟨rfl, hsz, hP, hK, hD0, hE⟩ := hv
  have hts := atoms_spec (ws := wsX11_isMadeAhead) B.pre
  have hown : s.vm.findClass RX11 = some m.cls := findClass_of_methodNamed B.named
  have hlocks := B.notSynchronized
  subst hsz
  have hD := hD0.self (sz := s.heap.size)
  exact wk_X11_isMadeAhead h_t B_t t_thrown t_n t_modulus t_rows t_strands t_letters t_listedMany t_listN t_listWhat t_best t_made B.exec B.bytes hml hown hts hK hE (fun q h => Or.inr h) (Nat.le_refl _) (Nat.le_refl _) (fun r  H locs ls pc hP hD hS hz hk hd => W.zret (v := r) B.exec B.bytes B.returns hz.n (fun t ht hW => ⟨⟨r, (), rfl, hk, by rw [ht]; exact hP, va_K.moved hW.alike hK, hD⟩, hS.F ht⟩) hS.2.2 hd) hP hD h

abbrev w_X11_leastOf (Y : Nat → ClassId) (h_t : Nat) (B_t : Nat → Nat) (t_thrown : Int32) (t_n : Int32) (t_modulus : Int32) (t_rows : Int32) (t_strands : Int32) (t_letters : Int32) (t_listedMany : Int32) (t_listN : Int32) (t_listWhat : Int32) (t_best : Nat → Int32) (t_f : Nat → Int32) (t_made : Nat → Int32) (t_table : Nat → Int32) : va_W := [(h_t, .inr (10, [.int t_thrown, .int t_n, .ref (B_t 2), .int t_modulus, .ref (B_t 4), .ref (B_t 5), .ref (B_t 6), .ref (B_t 7), .ref (B_t 8), .ref (B_t 9), .ref (B_t 10), .int t_rows, .ref (B_t 12), .ref (B_t 13), .ref (B_t 14), .ref (B_t 15), .ref (B_t 16), .ref (B_t 17), .ref (B_t 18), .ref (B_t 19), .int t_strands, .int t_letters, .ref (B_t 22), .ref (B_t 23), .ref (B_t 24), .ref (B_t 25), .int t_listedMany, .int t_listN, .int t_listWhat])), ((B_t 16), .inl (Y 0, 64, .inl t_best)), ((B_t 5), .inl (Y 0, 8, .inl t_f)), ((B_t 17), .inl (Y 0, 64, .inl t_made)), ((B_t 2), .inl (Y 0, 64, .inl t_table))]

set_option maxHeartbeats 20000000 in
set_option maxRecDepth 100000 in
theorem wk_X11_leastOf {p : Program} {l : Launch} {e : Env} {R : Room} {s : State} {m : MethodId} {args : Array Value} {below : List Frame} {meth : Method} {c : Code} {Q : State → Prop} {G : va_G} {Y : Nat → ClassId} {tF : Nat} {A : Nat → Prop} (h_t : Nat) (B_t : Nat → Nat) (t_thrown : Int32) (t_n : Int32) (t_modulus : Int32) (t_rows : Int32) (t_strands : Int32) (t_letters : Int32) (t_listedMany : Int32) (t_listN : Int32) (t_listWhat : Int32) (t_best : Nat → Int32) (t_f : Nat → Int32) (t_made : Nat → Int32) (t_table : Nat → Int32) {K : (Nat → Int32) → (Nat → Int32) → (Nat → Int32) → Prop} (hx : p.tables.exec = Jvm.exec) (hb : c.code = cX11_leastOf) (hml : c.maxLocals = 4) (hown : s.vm.findClass RX11 = some m.cls) (hts : ∀ w ∈ wsX11_leastOf, w.before args s = true) (hK : va_K G vwCl (tyL Y) s) (hE : Ev A tF s) (hA : ∀ q, s.heap.size ≤ q → A q) (hRf : 12 ≤ R.frames) (hRl : 248 ≤ R.locals) (hret : ∀ (t_best : Nat → Int32) (t_f : Nat → Int32) (t_made : Nat → Int32) (H : Heap) (locs : List Loc) (ls : Array Slot) (pc : Nat), va_P G vwCl (w_X11_leastOf Y h_t B_t t_thrown t_n t_modulus t_rows t_strands t_letters t_listedMany t_listN t_listWhat t_best t_f t_made t_table) H → va_D A (w_X11_leastOf Y h_t B_t t_thrown t_n t_modulus t_rows t_strands t_letters t_listedMany t_listN t_listWhat t_best t_f t_made t_table) → va_S A s.heap H locs → K t_best t_f t_made → decode cX11_leastOf pc = .ok (.return_, 1) → W p l e R s m args below meth c H locs 0 0 Q (F0 m pc ls [])) (hP : va_P G vwCl (w_X11_leastOf Y h_t B_t t_thrown t_n t_modulus t_rows t_strands t_letters t_listedMany t_listN t_listWhat t_best t_f t_made t_table) s.heap) (hD : va_D A (w_X11_leastOf Y h_t B_t t_thrown t_n t_modulus t_rows t_strands t_letters t_listedMany t_listN t_listWhat t_best t_f t_made t_table)) (h : pX11_leastOf t_n t_best t_f t_made t_table K) : W p l e R s m args below meth c s.heap [] 0 0 Q (entryFrame m ([.ref h_t] : List Value).toArray 4) := by
  have inX11 : ∀ w ∈ u_ws RX11 TX11 29, w ∈ wsX11_leastOf := by decide +kernel
  have hf13 := hts (.fieldLink RX11 13 "RackBenchModel" "table" "[I") (by decide +kernel)
  have hf23 := hts (.fieldLink RX11 23 "RackBenchModel" "f" "[I") (by decide +kernel)
  have hf55 := hts (.fieldLink RX11 55 "RackBenchModel" "best" "[I") (by decide +kernel)
  have hf58 := hts (.fieldLink RX11 58 "RackBenchModel" "made" "[I") (by decide +kernel)
  have hf9 := hts (.fieldLink RX11 9 "RackBenchModel" "n" "I") (by decide +kernel)
  have hl := lv_entry ([.ref h_t]) (n := 4) (Nat.le_of_ble_eq_true rfl)
  rw [lg_entry_eq]
  generalize (lg_sl ([.ref h_t]) ++ List.replicate (4 - (lg_sl ([.ref h_t])).length) Slot.unset).toArray = ls at hl ⊢
  have hl : lv_has ls 4 [(0, .ref h_t)] := hl
  generalize hH0 : s.heap = H at hP ⊢
  have hS : va_S A s.heap H [] := by rw [← hH0]; exact va_S.rf
  clear hH0
  generalize ([] : List Loc) = locs at hS ⊢
  refine lv_iconst (v := 0) hx hb dX11_leastOf_0 (by decide) ?_
  refine lv_istore_n (lv' := [(1, .int (0 : Int32)), (0, .ref h_t)]) hx hb dX11_leastOf_1 rfl hl (by decide) rfl (fun ls hl => ?_)
  obtain ⟨I2, m2, hI2, hB2⟩ := h
  have L2 : ∀ (t_f : Nat → Int32) (t_made : Nat → Int32) (I2 : Int32 → (Nat → Int32) → Prop) (m2 : Int32 → (Nat → Int32) → Nat), (∀ (x1 : Int32) (t_best : Nat → Int32), I2 x1 t_best → pX11_leastOf_2 t_n t_table K t_f t_made x1 t_best (fun x1' t_best' => I2 x1' t_best' ∧ m2 x1' t_best' < m2 x1 t_best)) → ∀ (n : Nat) (x1 : Int32) (t_best : Nat → Int32) (H : Heap) (locs : List Loc) (ls : Array Slot), I2 x1 t_best → m2 x1 t_best < n → va_P G vwCl (w_X11_leastOf Y h_t B_t t_thrown t_n t_modulus t_rows t_strands t_letters t_listedMany t_listN t_listWhat t_best t_f t_made t_table) H → va_D A (w_X11_leastOf Y h_t B_t t_thrown t_n t_modulus t_rows t_strands t_letters t_listedMany t_listN t_listWhat t_best t_f t_made t_table) → va_S A s.heap H locs → lv_has ls 4 [(0, .ref h_t), (1, .int x1)] → W p l e R s m args below meth c H locs 0 0 Q (F0 m 2 ls []) := by
    intro t_f t_made I2 m2 hB2 n
    induction n with
    | zero => intro x1 t_best H locs ls _ hm; exact absurd hm (Nat.not_lt_zero _)
    | succ n ih =>
      intro x1 t_best H locs ls hI hm hP hD hS hl
      obtain ⟨R2, h, rec2⟩ : ∃ R2 : Int32 → (Nat → Int32) → Prop, pX11_leastOf_2 t_n t_table K t_f t_made x1 t_best R2 ∧ ∀ (x1 : Int32) (t_best : Nat → Int32) (H : Heap) (locs : List Loc) (ls : Array Slot), R2 x1 t_best → va_P G vwCl (w_X11_leastOf Y h_t B_t t_thrown t_n t_modulus t_rows t_strands t_letters t_listedMany t_listN t_listWhat t_best t_f t_made t_table) H → va_D A (w_X11_leastOf Y h_t B_t t_thrown t_n t_modulus t_rows t_strands t_letters t_listedMany t_listN t_listWhat t_best t_f t_made t_table) → va_S A s.heap H locs → lv_has ls 4 [(0, .ref h_t), (1, .int x1)] → W p l e R s m args below meth c H locs 0 0 Q (F0 m 2 ls []) := ⟨_, hB2 x1 t_best hI, fun x1 t_best H locs ls hh hP hD hS hl => ih x1 t_best H locs ls hh.1 (Nat.lt_of_lt_of_le hh.2 (Nat.le_of_lt_succ hm)) hP hD hS hl⟩
      refine lv_iload_n hx hb dX11_leastOf_2 rfl (lv_at hl 1 rfl) ?_
      refine lv_bipush (v := 64) hx hb dX11_leastOf_3 (by decide) ?_
      obtain ⟨ht, hf⟩ := h
      refine lv_icmp_ge (tgt := 26) hx hb dX11_leastOf_5 (by decide) (fun c9 => ?_) (fun c9 => ?_)
      · have h := ht c9
        refine lv_iconst (v := 1) hx hb dX11_leastOf_26 (by decide) ?_
        refine lv_istore_n (lv' := [(1, .int (1 : Int32)), (0, .ref h_t)]) hx hb dX11_leastOf_27 rfl hl (by decide) rfl (fun ls hl => ?_)
        obtain ⟨I28, m28, hI28, hB28⟩ := h
        have L28 : ∀  (I28 : Int32 → (Nat → Int32) → (Nat → Int32) → (Nat → Int32) → Prop) (m28 : Int32 → (Nat → Int32) → (Nat → Int32) → (Nat → Int32) → Nat), (∀ (x1 : Int32) (t_best : Nat → Int32) (t_f : Nat → Int32) (t_made : Nat → Int32), I28 x1 t_best t_f t_made → pX11_leastOf_28 t_n t_table R2 K x1 t_best t_f t_made (fun x1' t_best' t_f' t_made' => I28 x1' t_best' t_f' t_made' ∧ m28 x1' t_best' t_f' t_made' < m28 x1 t_best t_f t_made)) → ∀ (n : Nat) (x1 : Int32) (t_best : Nat → Int32) (t_f : Nat → Int32) (t_made : Nat → Int32) (H : Heap) (locs : List Loc) (ls : Array Slot), I28 x1 t_best t_f t_made → m28 x1 t_best t_f t_made < n → va_P G vwCl (w_X11_leastOf Y h_t B_t t_thrown t_n t_modulus t_rows t_strands t_letters t_listedMany t_listN t_listWhat t_best t_f t_made t_table) H → va_D A (w_X11_leastOf Y h_t B_t t_thrown t_n t_modulus t_rows t_strands t_letters t_listedMany t_listN t_listWhat t_best t_f t_made t_table) → va_S A s.heap H locs → lv_has ls 4 [(0, .ref h_t), (1, .int x1)] → W p l e R s m args below meth c H locs 0 0 Q (F0 m 28 ls []) := by
          intro  I28 m28 hB28 n
          induction n with
          | zero => intro x1 t_best t_f t_made H locs ls _ hm; exact absurd hm (Nat.not_lt_zero _)
          | succ n ih =>
            intro x1 t_best t_f t_made H locs ls hI hm hP hD hS hl
            obtain ⟨R28, h, rec28⟩ : ∃ R28 : Int32 → (Nat → Int32) → (Nat → Int32) → (Nat → Int32) → Prop, pX11_leastOf_28 t_n t_table R2 K x1 t_best t_f t_made R28 ∧ ∀ (x1 : Int32) (t_best : Nat → Int32) (t_f : Nat → Int32) (t_made : Nat → Int32) (H : Heap) (locs : List Loc) (ls : Array Slot), R28 x1 t_best t_f t_made → va_P G vwCl (w_X11_leastOf Y h_t B_t t_thrown t_n t_modulus t_rows t_strands t_letters t_listedMany t_listN t_listWhat t_best t_f t_made t_table) H → va_D A (w_X11_leastOf Y h_t B_t t_thrown t_n t_modulus t_rows t_strands t_letters t_listedMany t_listN t_listWhat t_best t_f t_made t_table) → va_S A s.heap H locs → lv_has ls 4 [(0, .ref h_t), (1, .int x1)] → W p l e R s m args below meth c H locs 0 0 Q (F0 m 28 ls []) := ⟨_, hB28 x1 t_best t_f t_made hI, fun x1 t_best t_f t_made H locs ls hh hP hD hS hl => ih x1 t_best t_f t_made H locs ls hh.1 (Nat.lt_of_lt_of_le hh.2 (Nat.le_of_lt_succ hm)) hP hD hS hl⟩
            refine lv_iload_n hx hb dX11_leastOf_28 rfl (lv_at hl 1 rfl) ?_
            refine lv_aload_n hx hb dX11_leastOf_29 rfl (lv_at hl 0 rfl) ?_
            refine va_get (D := G) (ci := 10) (v := .int t_n) (C := RX11) (T := TX11) (N := 29) hx hb hts inX11 hown hK hP 0 rfl rfl 1 (by decide) hf9 (fun _ h9 => h9) rfl dX11_leastOf_30 ?_
            refine mc_iS ⟨hx, hb, hml, hown, hts⟩ hK hE hA hP hD hS (c_X11_factorial 10 l G Y tF H.size t_n h) (va_cwS 1 hts gX11_leastOf_X11_factorial rfl rfl rfl (by decide +kernel) ⟨Nat.le_trans (by decide) hRf, Nat.le_trans (by decide) hRl⟩) (fun u => (w_X11_leastOf Y h_t B_t t_thrown t_n t_modulus t_rows t_strands t_letters t_listedMany t_listN t_listWhat t_best t_f t_made t_table)) [] [0, 1, 2, 3, 4] [0, 1, 2, 3, 4] rfl rfl rfl rfl (by decide) (fun _ => rfl) rfl rfl hl.1 rfl (Nat.le_of_ble_eq_true rfl) dX11_leastOf_33 (fun r33 u H locs h hP hD hS => ?_)
            try dsimp only at h
            have hP : va_P G vwCl (w_X11_leastOf Y h_t B_t t_thrown t_n t_modulus t_rows t_strands t_letters t_listedMany t_listN t_listWhat t_best t_f t_made t_table) H := hP
            have hD : va_D A (w_X11_leastOf Y h_t B_t t_thrown t_n t_modulus t_rows t_strands t_letters t_listedMany t_listN t_listWhat t_best t_f t_made t_table) := hD
            obtain ⟨ht, hf⟩ := h
            refine lv_icmp_ge (tgt := 154) hx hb dX11_leastOf_36 (by decide) (fun c9 => ?_) (fun c9 => ?_)
            · have h := ht c9
              exact hret t_best t_f t_made H locs ls _ hP hD hS h dX11_leastOf_154
            · have h := hf c9
              refine lv_aload_n hx hb dX11_leastOf_39 rfl (lv_at hl 0 rfl) ?_
              refine va_get (D := G) (ci := 10) (v := .int t_n) (C := RX11) (T := TX11) (N := 29) hx hb hts inX11 hown hK hP 0 rfl rfl 1 (by decide) hf9 (fun _ h9 => h9) rfl dX11_leastOf_40 ?_
              refine lv_iload_n hx hb dX11_leastOf_43 rfl (lv_at hl 1 rfl) ?_
              refine lv_aload_n hx hb dX11_leastOf_44 rfl (lv_at hl 0 rfl) ?_
              refine va_get (D := G) (ci := 10) (v := .ref (B_t 5)) (C := RX11) (T := TX11) (N := 29) hx hb hts inX11 hown hK hP 0 rfl rfl 5 (by decide) hf23 (fun _ h9 => h9) rfl dX11_leastOf_45 ?_
              refine mc_vS ⟨hx, hb, hml, hown, hts⟩ hK hE hA hP hD hS (c_X11_permutation l G Y tF H.size (B_t 5) 8 t_f t_n x1 h) (va_cwS 3 hts gX11_leastOf_X11_permutation rfl rfl rfl (by decide +kernel) ⟨Nat.le_trans (by decide) hRf, Nat.le_trans (by decide) hRl⟩) (fun u => (w_X11_leastOf Y h_t B_t t_thrown t_n t_modulus t_rows t_strands t_letters t_listedMany t_listN t_listWhat t_best u t_made t_table)) [2] [0, 1, 3, 4] [0, 1, 4, 2, 3] rfl rfl rfl rfl (by decide) (fun _ => rfl) rfl rfl hl.1 rfl (Nat.le_of_ble_eq_true rfl) dX11_leastOf_48 (fun u H locs h hP hD hS => ?_)
              obtain ⟨t_f_48, rfl⟩ : ∃ z, z = u := ⟨_, rfl⟩
              try dsimp only at h
              have hP : va_P G vwCl (w_X11_leastOf Y h_t B_t t_thrown t_n t_modulus t_rows t_strands t_letters t_listedMany t_listN t_listWhat t_best t_f_48 t_made t_table) H := hP
              have hD : va_D A (w_X11_leastOf Y h_t B_t t_thrown t_n t_modulus t_rows t_strands t_letters t_listedMany t_listN t_listWhat t_best t_f_48 t_made t_table) := hD
              refine lv_iconst (v := 0) hx hb dX11_leastOf_51 (by decide) ?_
              refine lv_istore_n (lv' := [(2, .int (0 : Int32)), (0, .ref h_t), (1, .int x1)]) hx hb dX11_leastOf_52 rfl hl (by decide) rfl (fun ls hl => ?_)
              obtain ⟨I53, m53, hI53, hB53⟩ := h
              have L53 : ∀ (x1 : Int32) (t_best : Nat → Int32) (t_f : Nat → Int32) (I53 : Int32 → (Nat → Int32) → Prop) (m53 : Int32 → (Nat → Int32) → Nat), (∀ (x2 : Int32) (t_made : Nat → Int32), I53 x2 t_made → pX11_leastOf_53 t_n t_table R28 K x1 t_best t_f x2 t_made (fun x2' t_made' => I53 x2' t_made' ∧ m53 x2' t_made' < m53 x2 t_made)) → ∀ (n : Nat) (x2 : Int32) (t_made : Nat → Int32) (H : Heap) (locs : List Loc) (ls : Array Slot), I53 x2 t_made → m53 x2 t_made < n → va_P G vwCl (w_X11_leastOf Y h_t B_t t_thrown t_n t_modulus t_rows t_strands t_letters t_listedMany t_listN t_listWhat t_best t_f t_made t_table) H → va_D A (w_X11_leastOf Y h_t B_t t_thrown t_n t_modulus t_rows t_strands t_letters t_listedMany t_listN t_listWhat t_best t_f t_made t_table) → va_S A s.heap H locs → lv_has ls 4 [(0, .ref h_t), (1, .int x1), (2, .int x2)] → W p l e R s m args below meth c H locs 0 0 Q (F0 m 53 ls []) := by
                intro x1 t_best t_f I53 m53 hB53 n
                induction n with
                | zero => intro x2 t_made H locs ls _ hm; exact absurd hm (Nat.not_lt_zero _)
                | succ n ih =>
                  intro x2 t_made H locs ls hI hm hP hD hS hl
                  obtain ⟨R53, h, rec53⟩ : ∃ R53 : Int32 → (Nat → Int32) → Prop, pX11_leastOf_53 t_n t_table R28 K x1 t_best t_f x2 t_made R53 ∧ ∀ (x2 : Int32) (t_made : Nat → Int32) (H : Heap) (locs : List Loc) (ls : Array Slot), R53 x2 t_made → va_P G vwCl (w_X11_leastOf Y h_t B_t t_thrown t_n t_modulus t_rows t_strands t_letters t_listedMany t_listN t_listWhat t_best t_f t_made t_table) H → va_D A (w_X11_leastOf Y h_t B_t t_thrown t_n t_modulus t_rows t_strands t_letters t_listedMany t_listN t_listWhat t_best t_f t_made t_table) → va_S A s.heap H locs → lv_has ls 4 [(0, .ref h_t), (1, .int x1), (2, .int x2)] → W p l e R s m args below meth c H locs 0 0 Q (F0 m 53 ls []) := ⟨_, hB53 x2 t_made hI, fun x2 t_made H locs ls hh hP hD hS hl => ih x2 t_made H locs ls hh.1 (Nat.lt_of_lt_of_le hh.2 (Nat.le_of_lt_succ hm)) hP hD hS hl⟩
                  refine lv_iload_n hx hb dX11_leastOf_53 rfl (lv_at hl 2 rfl) ?_
                  refine lv_aload_n hx hb dX11_leastOf_54 rfl (lv_at hl 0 rfl) ?_
                  refine va_get (D := G) (ci := 10) (v := .int t_n) (C := RX11) (T := TX11) (N := 29) hx hb hts inX11 hown hK hP 0 rfl rfl 1 (by decide) hf9 (fun _ h9 => h9) rfl dX11_leastOf_55 ?_
                  obtain ⟨ht, hf⟩ := h
                  refine lv_icmp_ge (tgt := 115) hx hb dX11_leastOf_58 (by decide) (fun c9 => ?_) (fun c9 => ?_)
                  · have h := ht c9
                    refine lv_aload_n hx hb dX11_leastOf_115 rfl (lv_at hl 0 rfl) ?_
                    refine mc_iV ⟨hx, hb, hml, hown, hts⟩ hK hE hA hP hD hS (c_X11_isMadeAhead l G Y tF H.size h_t B_t t_thrown t_n t_modulus t_rows t_strands t_letters t_listedMany t_listN t_listWhat t_best t_made h) (cwV 0 hts gX11_leastOf_X11_isMadeAhead rfl rfl rfl (by decide +kernel) ⟨Nat.le_trans (by decide) hRf, Nat.le_trans (by decide) hRl⟩) (fun u => (w_X11_leastOf Y h_t B_t t_thrown t_n t_modulus t_rows t_strands t_letters t_listedMany t_listN t_listWhat t_best t_f t_made t_table)) [0, 1, 3] [2, 4] [2, 3, 0, 4, 1] rfl rfl rfl rfl (by decide) (fun _ => rfl) rfl 0 10 rfl rfl rfl rfl hl.1 rfl (Nat.le_of_ble_eq_true rfl) dX11_leastOf_116 (fun r116 u H locs h hP hD hS => ?_)
                    try dsimp only at h
                    have hP : va_P G vwCl (w_X11_leastOf Y h_t B_t t_thrown t_n t_modulus t_rows t_strands t_letters t_listedMany t_listN t_listWhat t_best t_f t_made t_table) H := hP
                    have hD : va_D A (w_X11_leastOf Y h_t B_t t_thrown t_n t_modulus t_rows t_strands t_letters t_listedMany t_listN t_listWhat t_best t_f t_made t_table) := hD
                    obtain ⟨ht, hf⟩ := h
                    refine lv_if_eq (tgt := 148) hx hb dX11_leastOf_119 (by decide) (fun c9 => ?_) (fun c9 => ?_)
                    · have h := ht c9
                      refine lv_iinc (v := (x1 + 1)) (lv' := [(1, .int (x1 + 1)), (0, .ref h_t), (2, .int x2)]) hx hb dX11_leastOf_148 hl (k := 1) rfl rfl (by decide) rfl (fun ls hl => ?_)
                      refine lv_goto (tgt := 28) hx hb dX11_leastOf_151 (by decide) ?_
                      exact rec28 (x1 + 1) t_best t_f t_made H locs ls h hP hD hS (lv_sub hl [1, 0] rfl)
                    · have h := hf c9
                      refine lv_iconst (v := 0) hx hb dX11_leastOf_122 (by decide) ?_
                      refine lv_istore_n (lv' := [(2, .int (0 : Int32)), (0, .ref h_t), (1, .int x1)]) hx hb dX11_leastOf_123 rfl hl (by decide) rfl (fun ls hl => ?_)
                      obtain ⟨I124, m124, hI124, hB124⟩ := h
                      have L124 : ∀ (x1 : Int32) (t_f : Nat → Int32) (t_made : Nat → Int32) (I124 : Int32 → (Nat → Int32) → Prop) (m124 : Int32 → (Nat → Int32) → Nat), (∀ (x2 : Int32) (t_best : Nat → Int32), I124 x2 t_best → pX11_leastOf_124 t_n t_table R28 R53 K x1 t_f t_made x2 t_best (fun x2' t_best' => I124 x2' t_best' ∧ m124 x2' t_best' < m124 x2 t_best)) → ∀ (n : Nat) (x2 : Int32) (t_best : Nat → Int32) (H : Heap) (locs : List Loc) (ls : Array Slot), I124 x2 t_best → m124 x2 t_best < n → va_P G vwCl (w_X11_leastOf Y h_t B_t t_thrown t_n t_modulus t_rows t_strands t_letters t_listedMany t_listN t_listWhat t_best t_f t_made t_table) H → va_D A (w_X11_leastOf Y h_t B_t t_thrown t_n t_modulus t_rows t_strands t_letters t_listedMany t_listN t_listWhat t_best t_f t_made t_table) → va_S A s.heap H locs → lv_has ls 4 [(0, .ref h_t), (1, .int x1), (2, .int x2)] → W p l e R s m args below meth c H locs 0 0 Q (F0 m 124 ls []) := by
                        intro x1 t_f t_made I124 m124 hB124 n
                        induction n with
                        | zero => intro x2 t_best H locs ls _ hm; exact absurd hm (Nat.not_lt_zero _)
                        | succ n ih =>
                          intro x2 t_best H locs ls hI hm hP hD hS hl
                          obtain ⟨R124, h, rec124⟩ : ∃ R124 : Int32 → (Nat → Int32) → Prop, pX11_leastOf_124 t_n t_table R28 R53 K x1 t_f t_made x2 t_best R124 ∧ ∀ (x2 : Int32) (t_best : Nat → Int32) (H : Heap) (locs : List Loc) (ls : Array Slot), R124 x2 t_best → va_P G vwCl (w_X11_leastOf Y h_t B_t t_thrown t_n t_modulus t_rows t_strands t_letters t_listedMany t_listN t_listWhat t_best t_f t_made t_table) H → va_D A (w_X11_leastOf Y h_t B_t t_thrown t_n t_modulus t_rows t_strands t_letters t_listedMany t_listN t_listWhat t_best t_f t_made t_table) → va_S A s.heap H locs → lv_has ls 4 [(0, .ref h_t), (1, .int x1), (2, .int x2)] → W p l e R s m args below meth c H locs 0 0 Q (F0 m 124 ls []) := ⟨_, hB124 x2 t_best hI, fun x2 t_best H locs ls hh hP hD hS hl => ih x2 t_best H locs ls hh.1 (Nat.lt_of_lt_of_le hh.2 (Nat.le_of_lt_succ hm)) hP hD hS hl⟩
                          refine lv_iload_n hx hb dX11_leastOf_124 rfl (lv_at hl 2 rfl) ?_
                          refine lv_bipush (v := 64) hx hb dX11_leastOf_125 (by decide) ?_
                          obtain ⟨ht, hf⟩ := h
                          refine lv_icmp_ge (tgt := 148) hx hb dX11_leastOf_127 (by decide) (fun c9 => ?_) (fun c9 => ?_)
                          · have h := ht c9
                            refine lv_iinc (v := (x1 + 1)) (lv' := [(1, .int (x1 + 1)), (0, .ref h_t), (2, .int x2)]) hx hb dX11_leastOf_148 hl (k := 1) rfl rfl (by decide) rfl (fun ls hl => ?_)
                            refine lv_goto (tgt := 28) hx hb dX11_leastOf_151 (by decide) ?_
                            exact rec28 (x1 + 1) t_best t_f t_made H locs ls h hP hD hS (lv_sub hl [1, 0] rfl)
                          · have h := hf c9
                            refine lv_aload_n hx hb dX11_leastOf_130 rfl (lv_at hl 0 rfl) ?_
                            refine va_get (D := G) (ci := 10) (v := .ref (B_t 16)) (C := RX11) (T := TX11) (N := 29) hx hb hts inX11 hown hK hP 0 rfl rfl 16 (by decide) hf55 (fun _ h9 => h9) rfl dX11_leastOf_131 ?_
                            refine lv_iload_n hx hb dX11_leastOf_134 rfl (lv_at hl 2 rfl) ?_
                            refine lv_aload_n hx hb dX11_leastOf_135 rfl (lv_at hl 0 rfl) ?_
                            refine va_get (D := G) (ci := 10) (v := .ref (B_t 17)) (C := RX11) (T := TX11) (N := 29) hx hb hts inX11 hown hK hP 0 rfl rfl 17 (by decide) hf58 (fun _ h9 => h9) rfl dX11_leastOf_136 ?_
                            refine lv_iload_n hx hb dX11_leastOf_139 rfl (lv_at hl 2 rfl) ?_
                            obtain ⟨hin, h⟩ := h
                            refine va_iald hx hb hK hP 3 0 rfl rfl hin dX11_leastOf_140 ?_
                            obtain ⟨hin, h⟩ := h
                            refine va_iast hx hb hK hP hD hS 1 0 rfl rfl hin dX11_leastOf_141 (fun H locs hP hD hS => ?_)
                            have hP : va_P G vwCl (w_X11_leastOf Y h_t B_t t_thrown t_n t_modulus t_rows t_strands t_letters t_listedMany t_listN t_listWhat (upd t_best (Int32.toNatClampNeg x2) (t_made (Int32.toNatClampNeg x2))) t_f t_made t_table) H := hP
                            have hD : va_D A (w_X11_leastOf Y h_t B_t t_thrown t_n t_modulus t_rows t_strands t_letters t_listedMany t_listN t_listWhat (upd t_best (Int32.toNatClampNeg x2) (t_made (Int32.toNatClampNeg x2))) t_f t_made t_table) := hD
                            refine lv_iinc (v := (x2 + 1)) (lv' := [(2, .int (x2 + 1)), (0, .ref h_t), (1, .int x1)]) hx hb dX11_leastOf_142 hl (k := 2) rfl rfl (by decide) rfl (fun ls hl => ?_)
                            refine lv_goto (tgt := 124) hx hb dX11_leastOf_145 (by decide) ?_
                            exact rec124 (x2 + 1) (upd t_best (Int32.toNatClampNeg x2) (t_made (Int32.toNatClampNeg x2))) H locs ls h hP hD hS (lv_sub hl [1, 2, 0] rfl)
                      exact L124 x1 t_f t_made I124 m124 hB124 _ (0 : Int32) t_best H locs ls hI124 (Nat.lt_succ_self _) hP hD hS (lv_sub hl [1, 2, 0] rfl)
                  · have h := hf c9
                    refine lv_iconst (v := 0) hx hb dX11_leastOf_61 (by decide) ?_
                    refine lv_istore_n (lv' := [(3, .int (0 : Int32)), (0, .ref h_t), (1, .int x1), (2, .int x2)]) hx hb dX11_leastOf_62 rfl hl (by decide) rfl (fun ls hl => ?_)
                    obtain ⟨I63, m63, hI63, hB63⟩ := h
                    have L63 : ∀ (x2 : Int32) (I63 : Int32 → (Nat → Int32) → Prop) (m63 : Int32 → (Nat → Int32) → Nat), (∀ (x3 : Int32) (t_made : Nat → Int32), I63 x3 t_made → pX11_leastOf_63 t_n t_table R28 R53 K x1 t_best t_f x2 x3 t_made (fun x3' t_made' => I63 x3' t_made' ∧ m63 x3' t_made' < m63 x3 t_made)) → ∀ (n : Nat) (x3 : Int32) (t_made : Nat → Int32) (H : Heap) (locs : List Loc) (ls : Array Slot), I63 x3 t_made → m63 x3 t_made < n → va_P G vwCl (w_X11_leastOf Y h_t B_t t_thrown t_n t_modulus t_rows t_strands t_letters t_listedMany t_listN t_listWhat t_best t_f t_made t_table) H → va_D A (w_X11_leastOf Y h_t B_t t_thrown t_n t_modulus t_rows t_strands t_letters t_listedMany t_listN t_listWhat t_best t_f t_made t_table) → va_S A s.heap H locs → lv_has ls 4 [(0, .ref h_t), (1, .int x1), (2, .int x2), (3, .int x3)] → W p l e R s m args below meth c H locs 0 0 Q (F0 m 63 ls []) := by
                      intro x2 I63 m63 hB63 n
                      induction n with
                      | zero => intro x3 t_made H locs ls _ hm; exact absurd hm (Nat.not_lt_zero _)
                      | succ n ih =>
                        intro x3 t_made H locs ls hI hm hP hD hS hl
                        obtain ⟨R63, h, rec63⟩ : ∃ R63 : Int32 → (Nat → Int32) → Prop, pX11_leastOf_63 t_n t_table R28 R53 K x1 t_best t_f x2 x3 t_made R63 ∧ ∀ (x3 : Int32) (t_made : Nat → Int32) (H : Heap) (locs : List Loc) (ls : Array Slot), R63 x3 t_made → va_P G vwCl (w_X11_leastOf Y h_t B_t t_thrown t_n t_modulus t_rows t_strands t_letters t_listedMany t_listN t_listWhat t_best t_f t_made t_table) H → va_D A (w_X11_leastOf Y h_t B_t t_thrown t_n t_modulus t_rows t_strands t_letters t_listedMany t_listN t_listWhat t_best t_f t_made t_table) → va_S A s.heap H locs → lv_has ls 4 [(0, .ref h_t), (1, .int x1), (2, .int x2), (3, .int x3)] → W p l e R s m args below meth c H locs 0 0 Q (F0 m 63 ls []) := ⟨_, hB63 x3 t_made hI, fun x3 t_made H locs ls hh hP hD hS hl => ih x3 t_made H locs ls hh.1 (Nat.lt_of_lt_of_le hh.2 (Nat.le_of_lt_succ hm)) hP hD hS hl⟩
                        refine lv_iload_n hx hb dX11_leastOf_63 rfl (lv_at hl 3 rfl) ?_
                        refine lv_aload_n hx hb dX11_leastOf_64 rfl (lv_at hl 0 rfl) ?_
                        refine va_get (D := G) (ci := 10) (v := .int t_n) (C := RX11) (T := TX11) (N := 29) hx hb hts inX11 hown hK hP 0 rfl rfl 1 (by decide) hf9 (fun _ h9 => h9) rfl dX11_leastOf_65 ?_
                        obtain ⟨ht, hf⟩ := h
                        refine lv_icmp_ge (tgt := 109) hx hb dX11_leastOf_68 (by decide) (fun c9 => ?_) (fun c9 => ?_)
                        · have h := ht c9
                          refine lv_iinc (v := (x2 + 1)) (lv' := [(2, .int (x2 + 1)), (0, .ref h_t), (1, .int x1), (3, .int x3)]) hx hb dX11_leastOf_109 hl (k := 2) rfl rfl (by decide) rfl (fun ls hl => ?_)
                          refine lv_goto (tgt := 53) hx hb dX11_leastOf_112 (by decide) ?_
                          exact rec53 (x2 + 1) t_made H locs ls h hP hD hS (lv_sub hl [1, 2, 0] rfl)
                        · have h := hf c9
                          refine lv_aload_n hx hb dX11_leastOf_71 rfl (lv_at hl 0 rfl) ?_
                          refine va_get (D := G) (ci := 10) (v := .ref (B_t 17)) (C := RX11) (T := TX11) (N := 29) hx hb hts inX11 hown hK hP 0 rfl rfl 17 (by decide) hf58 (fun _ h9 => h9) rfl dX11_leastOf_72 ?_
                          refine lv_bipush (v := 8) hx hb dX11_leastOf_75 (by decide) ?_
                          refine lv_aload_n hx hb dX11_leastOf_77 rfl (lv_at hl 0 rfl) ?_
                          refine va_get (D := G) (ci := 10) (v := .ref (B_t 5)) (C := RX11) (T := TX11) (N := 29) hx hb hts inX11 hown hK hP 0 rfl rfl 5 (by decide) hf23 (fun _ h9 => h9) rfl dX11_leastOf_78 ?_
                          refine lv_iload_n hx hb dX11_leastOf_81 rfl (lv_at hl 2 rfl) ?_
                          obtain ⟨hin, h⟩ := h
                          refine va_iald hx hb hK hP 2 0 rfl rfl hin dX11_leastOf_82 ?_
                          refine lv_imul hx hb dX11_leastOf_83 ?_
                          refine lv_aload_n hx hb dX11_leastOf_84 rfl (lv_at hl 0 rfl) ?_
                          refine va_get (D := G) (ci := 10) (v := .ref (B_t 5)) (C := RX11) (T := TX11) (N := 29) hx hb hts inX11 hown hK hP 0 rfl rfl 5 (by decide) hf23 (fun _ h9 => h9) rfl dX11_leastOf_85 ?_
                          refine lv_iload_n hx hb dX11_leastOf_88 rfl (lv_at hl 3 rfl) ?_
                          obtain ⟨hin, h⟩ := h
                          refine va_iald hx hb hK hP 2 0 rfl rfl hin dX11_leastOf_89 ?_
                          refine lv_iadd hx hb dX11_leastOf_90 ?_
                          refine lv_aload_n hx hb dX11_leastOf_91 rfl (lv_at hl 0 rfl) ?_
                          refine va_get (D := G) (ci := 10) (v := .ref (B_t 5)) (C := RX11) (T := TX11) (N := 29) hx hb hts inX11 hown hK hP 0 rfl rfl 5 (by decide) hf23 (fun _ h9 => h9) rfl dX11_leastOf_92 ?_
                          refine lv_aload_n hx hb dX11_leastOf_95 rfl (lv_at hl 0 rfl) ?_
                          refine lv_iload_n hx hb dX11_leastOf_96 rfl (lv_at hl 2 rfl) ?_
                          refine lv_iload_n hx hb dX11_leastOf_97 rfl (lv_at hl 3 rfl) ?_
                          refine mc_iV ⟨hx, hb, hml, hown, hts⟩ hK hE hA hP hD hS (c_X11_by l G Y tF H.size h_t B_t t_thrown t_n t_modulus t_rows t_strands t_letters t_listedMany t_listN t_listWhat t_table x2 x3 h) (cwV 2 hts gX11_leastOf_X11_by rfl rfl rfl (by decide +kernel) ⟨Nat.le_trans (by decide) hRf, Nat.le_trans (by decide) hRl⟩) (fun u => (w_X11_leastOf Y h_t B_t t_thrown t_n t_modulus t_rows t_strands t_letters t_listedMany t_listN t_listWhat t_best t_f t_made t_table)) [0, 4] [1, 2, 3] [3, 0, 1, 2, 4] rfl rfl rfl rfl (by decide) (fun _ => rfl) rfl 0 10 rfl rfl rfl rfl hl.1 rfl (Nat.le_of_ble_eq_true rfl) dX11_leastOf_98 (fun r98 u H locs h hP hD hS => ?_)
                          try dsimp only at h
                          have hP : va_P G vwCl (w_X11_leastOf Y h_t B_t t_thrown t_n t_modulus t_rows t_strands t_letters t_listedMany t_listN t_listWhat t_best t_f t_made t_table) H := hP
                          have hD : va_D A (w_X11_leastOf Y h_t B_t t_thrown t_n t_modulus t_rows t_strands t_letters t_listedMany t_listN t_listWhat t_best t_f t_made t_table) := hD
                          obtain ⟨hin, h⟩ := h
                          refine va_iald hx hb hK hP 2 0 rfl rfl hin dX11_leastOf_101 ?_
                          obtain ⟨hin, h⟩ := h
                          refine va_iast hx hb hK hP hD hS 3 0 rfl rfl hin dX11_leastOf_102 (fun H locs hP hD hS => ?_)
                          have hP : va_P G vwCl (w_X11_leastOf Y h_t B_t t_thrown t_n t_modulus t_rows t_strands t_letters t_listedMany t_listN t_listWhat t_best t_f (upd t_made (Int32.toNatClampNeg (((8 : Int32) * (t_f (Int32.toNatClampNeg x2))) + (t_f (Int32.toNatClampNeg x3)))) (t_f (Int32.toNatClampNeg r98))) t_table) H := hP
                          have hD : va_D A (w_X11_leastOf Y h_t B_t t_thrown t_n t_modulus t_rows t_strands t_letters t_listedMany t_listN t_listWhat t_best t_f (upd t_made (Int32.toNatClampNeg (((8 : Int32) * (t_f (Int32.toNatClampNeg x2))) + (t_f (Int32.toNatClampNeg x3)))) (t_f (Int32.toNatClampNeg r98))) t_table) := hD
                          refine lv_iinc (v := (x3 + 1)) (lv' := [(3, .int (x3 + 1)), (0, .ref h_t), (1, .int x1), (2, .int x2)]) hx hb dX11_leastOf_103 hl (k := 3) rfl rfl (by decide) rfl (fun ls hl => ?_)
                          refine lv_goto (tgt := 63) hx hb dX11_leastOf_106 (by decide) ?_
                          exact rec63 (x3 + 1) (upd t_made (Int32.toNatClampNeg (((8 : Int32) * (t_f (Int32.toNatClampNeg x2))) + (t_f (Int32.toNatClampNeg x3)))) (t_f (Int32.toNatClampNeg r98))) H locs ls h hP hD hS (lv_sub hl [1, 2, 3, 0] rfl)
                    exact L63 x2 I63 m63 hB63 _ (0 : Int32) t_made H locs ls hI63 (Nat.lt_succ_self _) hP hD hS (lv_sub hl [1, 2, 3, 0] rfl)
              exact L53 x1 t_best t_f_48 I53 m53 hB53 _ (0 : Int32) t_made H locs ls hI53 (Nat.lt_succ_self _) hP hD hS (lv_sub hl [1, 2, 0] rfl)
        exact L28  I28 m28 hB28 _ (1 : Int32) t_best t_f t_made H locs ls hI28 (Nat.lt_succ_self _) hP hD hS (lv_sub hl [1, 0] rfl)
      · have h := hf c9
        refine lv_aload_n hx hb dX11_leastOf_8 rfl (lv_at hl 0 rfl) ?_
        refine va_get (D := G) (ci := 10) (v := .ref (B_t 16)) (C := RX11) (T := TX11) (N := 29) hx hb hts inX11 hown hK hP 0 rfl rfl 16 (by decide) hf55 (fun _ h9 => h9) rfl dX11_leastOf_9 ?_
        refine lv_iload_n hx hb dX11_leastOf_12 rfl (lv_at hl 1 rfl) ?_
        refine lv_aload_n hx hb dX11_leastOf_13 rfl (lv_at hl 0 rfl) ?_
        refine va_get (D := G) (ci := 10) (v := .ref (B_t 2)) (C := RX11) (T := TX11) (N := 29) hx hb hts inX11 hown hK hP 0 rfl rfl 2 (by decide) hf13 (fun _ h9 => h9) rfl dX11_leastOf_14 ?_
        refine lv_iload_n hx hb dX11_leastOf_17 rfl (lv_at hl 1 rfl) ?_
        obtain ⟨hin, h⟩ := h
        refine va_iald hx hb hK hP 4 0 rfl rfl hin dX11_leastOf_18 ?_
        obtain ⟨hin, h⟩ := h
        refine va_iast hx hb hK hP hD hS 1 0 rfl rfl hin dX11_leastOf_19 (fun H locs hP hD hS => ?_)
        have hP : va_P G vwCl (w_X11_leastOf Y h_t B_t t_thrown t_n t_modulus t_rows t_strands t_letters t_listedMany t_listN t_listWhat (upd t_best (Int32.toNatClampNeg x1) (t_table (Int32.toNatClampNeg x1))) t_f t_made t_table) H := hP
        have hD : va_D A (w_X11_leastOf Y h_t B_t t_thrown t_n t_modulus t_rows t_strands t_letters t_listedMany t_listN t_listWhat (upd t_best (Int32.toNatClampNeg x1) (t_table (Int32.toNatClampNeg x1))) t_f t_made t_table) := hD
        refine lv_iinc (v := (x1 + 1)) (lv' := [(1, .int (x1 + 1)), (0, .ref h_t)]) hx hb dX11_leastOf_20 hl (k := 1) rfl rfl (by decide) rfl (fun ls hl => ?_)
        refine lv_goto (tgt := 2) hx hb dX11_leastOf_23 (by decide) ?_
        exact rec2 (x1 + 1) (upd t_best (Int32.toNatClampNeg x1) (t_table (Int32.toNatClampNeg x1))) H locs ls h hP hD hS (lv_sub hl [1, 0] rfl)
  exact L2 t_f t_made I2 m2 hB2 _ (0 : Int32) t_best H locs ls hI2 (Nat.lt_succ_self _) hP hD hS (lv_sub hl [1, 0] rfl)

set_option maxHeartbeats 20000000 in
set_option maxRecDepth 100000 in
theorem c_X11_leastOf (l : Launch) (G : va_G) (Y : Nat → ClassId) (tF sz : Nat) (h_t : Nat) (B_t : Nat → Nat) (t_thrown : Int32) (t_n : Int32) (t_modulus : Int32) (t_rows : Int32) (t_strands : Int32) (t_letters : Int32) (t_listedMany : Int32) (t_listN : Int32) (t_listWhat : Int32) (t_best : Nat → Int32) (t_f : Nat → Int32) (t_made : Nat → Int32) (t_table : Nat → Int32) {K : (Nat → Int32) → (Nat → Int32) → (Nat → Int32) → Prop} (h : pX11_leastOf t_n t_best t_f t_made t_table K) : Met l yX11_leastOf wsX11_leastOf ({ frames := 12, cells := 0, slots := 0, locals := 248 }) (PcM G Y tF sz (w_X11_leastOf Y h_t B_t t_thrown t_n t_modulus t_rows t_strands t_letters t_listedMany t_listN t_listWhat t_best t_f t_made t_table) [.ref h_t]) (va_Qv (fun u : (Nat → Int32) × (Nat → Int32) × (Nat → Int32) => K u.1 u.2.1 u.2.2) (fun u t => BM G Y (va_A (w_X11_leastOf Y h_t B_t t_thrown t_n t_modulus t_rows t_strands t_letters t_listedMany t_listN t_listWhat t_best t_f t_made t_table) sz) (w_X11_leastOf Y h_t B_t t_thrown t_n t_modulus t_rows t_strands t_letters t_listedMany t_listN t_listWhat u.1 u.2.1 u.2.2 t_table) t) (va_A (w_X11_leastOf Y h_t B_t t_thrown t_n t_modulus t_rows t_strands t_letters t_listedMany t_listN t_listWhat t_best t_f t_made t_table) sz)) 0 0 (va_A (w_X11_leastOf Y h_t B_t t_thrown t_n t_modulus t_rows t_strands t_letters t_listedMany t_listN t_listWhat t_best t_f t_made t_table) sz) := by
  refine Met.ofW (cc := cX11_leastOf) (maxL := 4) (ret := none) (by decide +kernel) rfl ?_
  intro p e s m args below meth c s₁ B hml hv
  obtain ⟨rfl, hsz, hP, hK, hD0, hE⟩ := hv
  have hts := atoms_spec (ws := wsX11_leastOf) B.pre
  have hown : s.vm.findClass RX11 = some m.cls := findClass_of_methodNamed B.named
  have hlocks := B.notSynchronized
  subst hsz
  have hD := hD0.self (sz := s.heap.size)
  exact wk_X11_leastOf h_t B_t t_thrown t_n t_modulus t_rows t_strands t_letters t_listedMany t_listN t_listWhat t_best t_f t_made t_table B.exec B.bytes hml hown hts hK hE (fun q h => Or.inr h) (Nat.le_refl _) (Nat.le_refl _) (fun t_best t_f t_made H locs ls pc hP hD hS hk hd => W.vret B.exec B.bytes B.returns (fun t ht hW => ⟨⟨(t_best, t_f, t_made), rfl, hk, by rw [ht]; exact hP, va_K.moved hW.alike hK, hD⟩, hS.F ht⟩) hS.2.2 hd) hP hD h

