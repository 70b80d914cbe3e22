abbrev w_X11_numbered (Y : Nat → ClassId) (h_t : Nat) (h_p1 : Nat) (B_t : Nat → Nat) (N_p1 : Nat) (t_thrown : Int32) (t_n : Int32) (t_modulus : Int32) (t_rows : Int32) (t_strands : Int32) (t_letters : Int32) (t_listedMany : Int32) (t_listN : Int32) (t_listWhat : Int32) (t_h : Nat → Int32) (p1 : Nat → Int32) : va_W := [(h_t, .inr (10, [.int t_thrown, .int t_n, .ref (B_t 2), .int t_modulus, .ref (B_t 4), .ref (B_t 5), .ref (B_t 6), .ref (B_t 7), .ref (B_t 8), .ref (B_t 9), .ref (B_t 10), .int t_rows, .ref (B_t 12), .ref (B_t 13), .ref (B_t 14), .ref (B_t 15), .ref (B_t 16), .ref (B_t 17), .ref (B_t 18), .ref (B_t 19), .int t_strands, .int t_letters, .ref (B_t 22), .ref (B_t 23), .ref (B_t 24), .ref (B_t 25), .int t_listedMany, .int t_listN, .int t_listWhat])), ((B_t 7), .inl (Y 0, 8, .inl t_h)), (h_p1, .inl (Y 0, N_p1, .inl p1))]

set_option maxHeartbeats 20000000 in
set_option maxRecDepth 100000 in
theorem wk_X11_numbered {p : Program} {l : Launch} {e : Env} {R : Room} {s : State} {m : MethodId} {args : Array Value} {below : List Frame} {meth : Method} {c : Code} {Q : State → Prop} {G : va_G} {Y : Nat → ClassId} {tF : Nat} {A : Nat → Prop} (h_t : Nat) (h_p1 : Nat) (B_t : Nat → Nat) (N_p1 : Nat) (t_thrown : Int32) (t_n : Int32) (t_modulus : Int32) (t_rows : Int32) (t_strands : Int32) (t_letters : Int32) (t_listedMany : Int32) (t_listN : Int32) (t_listWhat : Int32) (t_h : Nat → Int32) (p1 : Nat → Int32) {K : Int32 → (Nat → Int32) → (Nat → Int32) → Prop} (hx : p.tables.exec = Jvm.exec) (hb : c.code = cX11_numbered) (hml : c.maxLocals = 4) (hown : s.vm.findClass RX11 = some m.cls) (hts : ∀ w ∈ wsX11_numbered, w.before args s = true) (hK : va_K G vwCl (tyL Y) s) (hE : Ev A tF s) (hA : ∀ q, s.heap.size ≤ q → A q) (hRf : 0 ≤ R.frames) (hRl : 0 ≤ R.locals) (hret : ∀ (r : Int32) (t_h : Nat → Int32) (p1 : Nat → Int32) (H : Heap) (locs : List Loc) (ls : Array Slot) (pc : Nat), va_P G vwCl (w_X11_numbered Y h_t h_p1 B_t N_p1 t_thrown t_n t_modulus t_rows t_strands t_letters t_listedMany t_listN t_listWhat t_h p1) H → va_D A (w_X11_numbered Y h_t h_p1 B_t N_p1 t_thrown t_n t_modulus t_rows t_strands t_letters t_listedMany t_listN t_listWhat t_h p1) → va_S A s.heap H locs → K r t_h p1 → decode cX11_numbered pc = .ok (.ireturn, 1) → W p l e R s m args below meth c H locs 0 0 Q (F0 m pc ls [.int r])) (hP : va_P G vwCl (w_X11_numbered Y h_t h_p1 B_t N_p1 t_thrown t_n t_modulus t_rows t_strands t_letters t_listedMany t_listN t_listWhat t_h p1) s.heap) (hD : va_D A (w_X11_numbered Y h_t h_p1 B_t N_p1 t_thrown t_n t_modulus t_rows t_strands t_letters t_listedMany t_listN t_listWhat t_h p1)) (h : pX11_numbered N_p1 t_n t_h p1 K) : W p l e R s m args below meth c s.heap [] 0 0 Q (entryFrame m ([.ref h_t, .ref h_p1] : List Value).toArray 4) := by
  have inX11 : ∀ w ∈ u_ws RX11 TX11 29, w ∈ wsX11_numbered := by decide +kernel
  have hf29 := hts (.fieldLink RX11 29 "RackBenchModel" "h" "[I") (by decide +kernel)
  have hf9 := hts (.fieldLink RX11 9 "RackBenchModel" "n" "I") (by decide +kernel)
  have hl := lv_entry ([.ref h_t, .ref h_p1]) (n := 4) (Nat.le_of_ble_eq_true rfl)
  rw [lg_entry_eq]
  generalize (lg_sl ([.ref h_t, .ref h_p1]) ++ List.replicate (4 - (lg_sl ([.ref h_t, .ref h_p1])).length) Slot.unset).toArray = ls at hl ⊢
  have hl : lv_has ls 4 [(0, .ref h_t), (1, .ref h_p1)] := hl
  generalize hH0 : s.heap = H at hP ⊢
  have hS : va_S A s.heap H [] := by rw [← hH0]; exact va_S.rf
  clear hH0
  generalize ([] : List Loc) = locs at hS ⊢
  refine lv_iconst (v := 0) hx hb dX11_numbered_0 (by decide) ?_
  refine lv_istore_n (lv' := [(2, .int (0 : Int32)), (0, .ref h_t), (1, .ref h_p1)]) hx hb dX11_numbered_1 rfl hl (by decide) rfl (fun ls hl => ?_)
  refine lv_iconst (v := 0) hx hb dX11_numbered_2 (by decide) ?_
  refine lv_istore_n (lv' := [(3, .int (0 : Int32)), (2, .int (0 : Int32)), (0, .ref h_t), (1, .ref h_p1)]) hx hb dX11_numbered_3 rfl hl (by decide) rfl (fun ls hl => ?_)
  obtain ⟨I4, m4, hI4, hB4⟩ := h
  have L4 : ∀ (p1 : Nat → Int32) (I4 : Int32 → Int32 → (Nat → Int32) → Prop) (m4 : Int32 → Int32 → (Nat → Int32) → Nat), (∀ (x2 : Int32) (x3 : Int32) (t_h : Nat → Int32), I4 x2 x3 t_h → pX11_numbered_4 N_p1 t_n K p1 x2 x3 t_h (fun x2' x3' t_h' => I4 x2' x3' t_h' ∧ m4 x2' x3' t_h' < m4 x2 x3 t_h)) → ∀ (n : Nat) (x2 : Int32) (x3 : Int32) (t_h : Nat → Int32) (H : Heap) (locs : List Loc) (ls : Array Slot), I4 x2 x3 t_h → m4 x2 x3 t_h < n → va_P G vwCl (w_X11_numbered Y h_t h_p1 B_t N_p1 t_thrown t_n t_modulus t_rows t_strands t_letters t_listedMany t_listN t_listWhat t_h p1) H → va_D A (w_X11_numbered Y h_t h_p1 B_t N_p1 t_thrown t_n t_modulus t_rows t_strands t_letters t_listedMany t_listN t_listWhat t_h p1) → va_S A s.heap H locs → lv_has ls 4 [(0, .ref h_t), (1, .ref h_p1), (2, .int x2), (3, .int x3)] → W p l e R s m args below meth c H locs 0 0 Q (F0 m 4 ls []) := by
    intro p1 I4 m4 hB4 n
    induction n with
    | zero => intro x2 x3 t_h H locs ls _ hm; exact absurd hm (Nat.not_lt_zero _)
    | succ n ih =>
      intro x2 x3 t_h H locs ls hI hm hP hD hS hl
      obtain ⟨R4, h, rec4⟩ : ∃ R4 : Int32 → Int32 → (Nat → Int32) → Prop, pX11_numbered_4 N_p1 t_n K p1 x2 x3 t_h R4 ∧ ∀ (x2 : Int32) (x3 : Int32) (t_h : Nat → Int32) (H : Heap) (locs : List Loc) (ls : Array Slot), R4 x2 x3 t_h → va_P G vwCl (w_X11_numbered Y h_t h_p1 B_t N_p1 t_thrown t_n t_modulus t_rows t_strands t_letters t_listedMany t_listN t_listWhat t_h p1) H → va_D A (w_X11_numbered Y h_t h_p1 B_t N_p1 t_thrown t_n t_modulus t_rows t_strands t_letters t_listedMany t_listN t_listWhat t_h p1) → va_S A s.heap H locs → lv_has ls 4 [(0, .ref h_t), (1, .ref h_p1), (2, .int x2), (3, .int x3)] → W p l e R s m args below meth c H locs 0 0 Q (F0 m 4 ls []) := ⟨_, hB4 x2 x3 t_h hI, fun x2 x3 t_h H locs ls hh hP hD hS hl => ih x2 x3 t_h H locs ls hh.1 (Nat.lt_of_lt_of_le hh.2 (Nat.le_of_lt_succ hm)) hP hD hS hl⟩
      refine lv_iload_n hx hb dX11_numbered_4 rfl (lv_at hl 3 rfl) ?_
      refine lv_aload_n hx hb dX11_numbered_5 rfl (lv_at hl 0 rfl) ?_
      refine va_get (D := G) (ci := 10) (v := .int t_n) (C := RX11) (T := TX11) (N := 29) hx hb hts inX11 hown hK hP 0 rfl rfl 1 (by decide) hf9 (fun _ h9 => h9) rfl dX11_numbered_6 ?_
      obtain ⟨ht, hf⟩ := h
      refine lv_icmp_ge (tgt := 35) hx hb dX11_numbered_9 (by decide) (fun c9 => ?_) (fun c9 => ?_)
      · have h := ht c9
        refine lv_iconst (v := 0) hx hb dX11_numbered_35 (by decide) ?_
        refine lv_istore_n (lv' := [(3, .int (0 : Int32)), (0, .ref h_t), (1, .ref h_p1), (2, .int x2)]) hx hb dX11_numbered_36 rfl hl (by decide) rfl (fun ls hl => ?_)
        obtain ⟨I37, m37, hI37, hB37⟩ := h
        have L37 : ∀ (x2 : Int32) (t_h : Nat → Int32) (I37 : Int32 → (Nat → Int32) → Prop) (m37 : Int32 → (Nat → Int32) → Nat), (∀ (x3 : Int32) (p1 : Nat → Int32), I37 x3 p1 → pX11_numbered_37 N_p1 t_n R4 K x2 t_h x3 p1 (fun x3' p1' => I37 x3' p1' ∧ m37 x3' p1' < m37 x3 p1)) → ∀ (n : Nat) (x3 : Int32) (p1 : Nat → Int32) (H : Heap) (locs : List Loc) (ls : Array Slot), I37 x3 p1 → m37 x3 p1 < n → va_P G vwCl (w_X11_numbered Y h_t h_p1 B_t N_p1 t_thrown t_n t_modulus t_rows t_strands t_letters t_listedMany t_listN t_listWhat t_h p1) H → va_D A (w_X11_numbered Y h_t h_p1 B_t N_p1 t_thrown t_n t_modulus t_rows t_strands t_letters t_listedMany t_listN t_listWhat t_h p1) → va_S A s.heap H locs → lv_has ls 4 [(0, .ref h_t), (1, .ref h_p1), (2, .int x2), (3, .int x3)] → W p l e R s m args below meth c H locs 0 0 Q (F0 m 37 ls []) := by
          intro x2 t_h I37 m37 hB37 n
          induction n with
          | zero => intro x3 p1 H locs ls _ hm; exact absurd hm (Nat.not_lt_zero _)
          | succ n ih =>
            intro x3 p1 H locs ls hI hm hP hD hS hl
            obtain ⟨R37, h, rec37⟩ : ∃ R37 : Int32 → (Nat → Int32) → Prop, pX11_numbered_37 N_p1 t_n R4 K x2 t_h x3 p1 R37 ∧ ∀ (x3 : Int32) (p1 : Nat → Int32) (H : Heap) (locs : List Loc) (ls : Array Slot), R37 x3 p1 → va_P G vwCl (w_X11_numbered Y h_t h_p1 B_t N_p1 t_thrown t_n t_modulus t_rows t_strands t_letters t_listedMany t_listN t_listWhat t_h p1) H → va_D A (w_X11_numbered Y h_t h_p1 B_t N_p1 t_thrown t_n t_modulus t_rows t_strands t_letters t_listedMany t_listN t_listWhat t_h p1) → va_S A s.heap H locs → lv_has ls 4 [(0, .ref h_t), (1, .ref h_p1), (2, .int x2), (3, .int x3)] → W p l e R s m args below meth c H locs 0 0 Q (F0 m 37 ls []) := ⟨_, hB37 x3 p1 hI, fun x3 p1 H locs ls hh hP hD hS hl => ih x3 p1 H locs ls hh.1 (Nat.lt_of_lt_of_le hh.2 (Nat.le_of_lt_succ hm)) hP hD hS hl⟩
            refine lv_iload_n hx hb dX11_numbered_37 rfl (lv_at hl 3 rfl) ?_
            refine lv_aload_n hx hb dX11_numbered_38 rfl (lv_at hl 0 rfl) ?_
            refine va_get (D := G) (ci := 10) (v := .int t_n) (C := RX11) (T := TX11) (N := 29) hx hb hts inX11 hown hK hP 0 rfl rfl 1 (by decide) hf9 (fun _ h9 => h9) rfl dX11_numbered_39 ?_
            obtain ⟨ht, hf⟩ := h
            refine lv_icmp_ge (tgt := 62) hx hb dX11_numbered_42 (by decide) (fun c9 => ?_) (fun c9 => ?_)
            · have h := ht c9
              refine lv_iload_n hx hb dX11_numbered_62 rfl (lv_at hl 2 rfl) ?_
              exact hret x2 t_h p1 H locs ls _ hP hD hS h dX11_numbered_63
            · have h := hf c9
              refine lv_aload_n hx hb dX11_numbered_45 rfl (lv_at hl 1 rfl) ?_
              refine lv_iload_n hx hb dX11_numbered_46 rfl (lv_at hl 3 rfl) ?_
              refine lv_aload_n hx hb dX11_numbered_47 rfl (lv_at hl 0 rfl) ?_
              refine va_get (D := G) (ci := 10) (v := .ref (B_t 7)) (C := RX11) (T := TX11) (N := 29) hx hb hts inX11 hown hK hP 0 rfl rfl 7 (by decide) hf29 (fun _ h9 => h9) rfl dX11_numbered_48 ?_
              refine lv_aload_n hx hb dX11_numbered_51 rfl (lv_at hl 1 rfl) ?_
              refine lv_iload_n hx hb dX11_numbered_52 rfl (lv_at hl 3 rfl) ?_
              obtain ⟨hin, h⟩ := h
              refine va_iald hx hb hK hP 2 0 rfl rfl hin dX11_numbered_53 ?_
              obtain ⟨hin, h⟩ := h
              refine va_iald hx hb hK hP 1 0 rfl rfl hin dX11_numbered_54 ?_
              obtain ⟨hin, h⟩ := h
              refine va_iast hx hb hK hP hD hS 2 0 rfl rfl hin dX11_numbered_55 (fun H locs hP hD hS => ?_)
              have hP : va_P G vwCl (w_X11_numbered Y h_t h_p1 B_t N_p1 t_thrown t_n t_modulus t_rows t_strands t_letters t_listedMany t_listN t_listWhat t_h (upd p1 (Int32.toNatClampNeg x3) (t_h (Int32.toNatClampNeg (p1 (Int32.toNatClampNeg x3)))))) H := hP
              have hD : va_D A (w_X11_numbered Y h_t h_p1 B_t N_p1 t_thrown t_n t_modulus t_rows t_strands t_letters t_listedMany t_listN t_listWhat t_h (upd p1 (Int32.toNatClampNeg x3) (t_h (Int32.toNatClampNeg (p1 (Int32.toNatClampNeg x3)))))) := hD
              refine lv_iinc (v := (x3 + 1)) (lv' := [(3, .int (x3 + 1)), (0, .ref h_t), (1, .ref h_p1), (2, .int x2)]) hx hb dX11_numbered_56 hl (k := 3) rfl rfl (by decide) rfl (fun ls hl => ?_)
              refine lv_goto (tgt := 37) hx hb dX11_numbered_59 (by decide) ?_
              exact rec37 (x3 + 1) (upd p1 (Int32.toNatClampNeg x3) (t_h (Int32.toNatClampNeg (p1 (Int32.toNatClampNeg x3))))) H locs ls h hP hD hS (lv_sub hl [1, 2, 3, 0] rfl)
        exact L37 x2 t_h I37 m37 hB37 _ (0 : Int32) p1 H locs ls hI37 (Nat.lt_succ_self _) hP hD hS (lv_sub hl [1, 2, 3, 0] rfl)
      · have h := hf c9
        refine lv_aload_n hx hb dX11_numbered_12 rfl (lv_at hl 1 rfl) ?_
        refine lv_iload_n hx hb dX11_numbered_13 rfl (lv_at hl 3 rfl) ?_
        obtain ⟨hin, h⟩ := h
        refine va_iald hx hb hK hP 2 0 rfl rfl hin dX11_numbered_14 ?_
        refine lv_iload_n hx hb dX11_numbered_15 rfl (lv_at hl 3 rfl) ?_
        obtain ⟨ht, hf⟩ := h
        refine lv_icmp_ne (tgt := 29) hx hb dX11_numbered_16 (by decide) (fun c9 => ?_) (fun c9 => ?_)
        · have h := ht c9
          refine lv_iinc (v := (x3 + 1)) (lv' := [(3, .int (x3 + 1)), (0, .ref h_t), (1, .ref h_p1), (2, .int x2)]) hx hb dX11_numbered_29 hl (k := 3) rfl rfl (by decide) rfl (fun ls hl => ?_)
          refine lv_goto (tgt := 4) hx hb dX11_numbered_32 (by decide) ?_
          exact rec4 x2 (x3 + 1) t_h H locs ls h hP hD hS (lv_sub hl [1, 2, 3, 0] rfl)
        · have h := hf c9
          refine lv_aload_n hx hb dX11_numbered_19 rfl (lv_at hl 0 rfl) ?_
          refine va_get (D := G) (ci := 10) (v := .ref (B_t 7)) (C := RX11) (T := TX11) (N := 29) hx hb hts inX11 hown hK hP 0 rfl rfl 7 (by decide) hf29 (fun _ h9 => h9) rfl dX11_numbered_20 ?_
          refine lv_iload_n hx hb dX11_numbered_23 rfl (lv_at hl 3 rfl) ?_
          refine lv_iload_n hx hb dX11_numbered_24 rfl (lv_at hl 2 rfl) ?_
          obtain ⟨hin, h⟩ := h
          refine va_iast hx hb hK hP hD hS 1 0 rfl rfl hin dX11_numbered_25 (fun H locs hP hD hS => ?_)
          have hP : va_P G vwCl (w_X11_numbered Y h_t h_p1 B_t N_p1 t_thrown t_n t_modulus t_rows t_strands t_letters t_listedMany t_listN t_listWhat (upd t_h (Int32.toNatClampNeg x3) x2) p1) H := hP
          have hD : va_D A (w_X11_numbered Y h_t h_p1 B_t N_p1 t_thrown t_n t_modulus t_rows t_strands t_letters t_listedMany t_listN t_listWhat (upd t_h (Int32.toNatClampNeg x3) x2) p1) := hD
          refine lv_iinc (v := (x2 + 1)) (lv' := [(2, .int (x2 + 1)), (0, .ref h_t), (1, .ref h_p1), (3, .int x3)]) hx hb dX11_numbered_26 hl (k := 2) rfl rfl (by decide) rfl (fun ls hl => ?_)
          refine lv_iinc (v := (x3 + 1)) (lv' := [(3, .int (x3 + 1)), (2, .int (x2 + 1)), (0, .ref h_t), (1, .ref h_p1)]) hx hb dX11_numbered_29 hl (k := 3) rfl rfl (by decide) rfl (fun ls hl => ?_)
          refine lv_goto (tgt := 4) hx hb dX11_numbered_32 (by decide) ?_
          exact rec4 (x2 + 1) (x3 + 1) (upd t_h (Int32.toNatClampNeg x3) x2) H locs ls h hP hD hS (lv_sub hl [2, 3, 1, 0] rfl)
  exact L4 p1 I4 m4 hB4 _ (0 : Int32) (0 : Int32) t_h H locs ls hI4 (Nat.lt_succ_self _) hP hD hS (lv_sub hl [2, 3, 1, 0] rfl)

set_option maxHeartbeats 20000000 in
set_option maxRecDepth 100000 in
theorem c_X11_numbered (l : Launch) (G : va_G) (Y : Nat → ClassId) (tF sz : Nat) (h_t : Nat) (h_p1 : Nat) (B_t : Nat → Nat) (N_p1 : Nat) (t_thrown : Int32) (t_n : Int32) (t_modulus : Int32) (t_rows : Int32) (t_strands : Int32) (t_letters : Int32) (t_listedMany : Int32) (t_listN : Int32) (t_listWhat : Int32) (t_h : Nat → Int32) (p1 : Nat → Int32) {K : Int32 → (Nat → Int32) → (Nat → Int32) → Prop} (h : pX11_numbered N_p1 t_n t_h p1 K) : Met l yX11_numbered wsX11_numbered ({ frames := 0, cells := 0, slots := 0, locals := 0 }) (PcM G Y tF sz (w_X11_numbered Y h_t h_p1 B_t N_p1 t_thrown t_n t_modulus t_rows t_strands t_letters t_listedMany t_listN t_listWhat t_h p1) [.ref h_t, .ref h_p1]) (va_Qi (fun (r : Int32) (u : (Nat → Int32) × (Nat → Int32)) => K r u.1 u.2) (fun u t => BM G Y (va_A (w_X11_numbered Y h_t h_p1 B_t N_p1 t_thrown t_n t_modulus t_rows t_strands t_letters t_listedMany t_listN t_listWhat t_h p1) sz) (w_X11_numbered Y h_t h_p1 B_t N_p1 t_thrown t_n t_modulus t_rows t_strands t_letters t_listedMany t_listN t_listWhat u.1 u.2) t) (va_A (w_X11_numbered Y h_t h_p1 B_t N_p1 t_thrown t_n t_modulus t_rows t_strands t_letters t_listedMany t_listN t_listWhat t_h p1) sz)) 0 0 (va_A (w_X11_numbered Y h_t h_p1 B_t N_p1 t_thrown t_n t_modulus t_rows t_strands t_letters t_listedMany t_listN t_listWhat t_h p1) sz) := by
  refine Met.ofW (cc := cX11_numbered) (maxL := 4) (ret := (some .int)) (by decide +kernel) rfl ?_
  intro p e s m args below meth c s₁ B hml hv
  obtain ⟨rfl, hsz, hP, hK, hD0, hE⟩ := hv
  have hts := atoms_spec (ws := wsX11_numbered) B.pre
  have hown : s.vm.findClass RX11 = some m.cls := findClass_of_methodNamed B.named
  have hlocks := B.notSynchronized
  subst hsz
  have hD := hD0.self (sz := s.heap.size)
  exact wk_X11_numbered h_t h_p1 B_t N_p1 t_thrown t_n t_modulus t_rows t_strands t_letters t_listedMany t_listN t_listWhat t_h p1 B.exec B.bytes hml hown hts hK hE (fun q h => Or.inr h) (Nat.le_refl _) (Nat.le_refl _) (fun r t_h p1 H locs ls pc hP hD hS hk hd => W.iret (v := r) B.exec B.bytes B.returns (fun t ht hW => ⟨⟨r, (t_h, p1), rfl, hk, by rw [ht]; exact hP, va_K.moved hW.alike hK, hD⟩, hS.F ht⟩) hS.2.2 hd) hP hD h

abbrev w_X11_findsOrbits (Y : Nat → ClassId) (h_t : Nat) (B_t : Nat → Nat) (t_thrown : Int32) (t_n : Int32) (t_modulus : Int32) (t_rows : Int32) (t_strands : Int32) (t_letters : Int32) (t_listedMany : Int32) (t_listN : Int32) (t_listWhat : Int32) (t_h : Nat → Int32) (t_orbit : Nat → Int32) (t_table : Nat → Int32) : va_W := [(h_t, .inr (10, [.int t_thrown, .int t_n, .ref (B_t 2), .int t_modulus, .ref (B_t 4), .ref (B_t 5), .ref (B_t 6), .ref (B_t 7), .ref (B_t 8), .ref (B_t 9), .ref (B_t 10), .int t_rows, .ref (B_t 12), .ref (B_t 13), .ref (B_t 14), .ref (B_t 15), .ref (B_t 16), .ref (B_t 17), .ref (B_t 18), .ref (B_t 19), .int t_strands, .int t_letters, .ref (B_t 22), .ref (B_t 23), .ref (B_t 24), .ref (B_t 25), .int t_listedMany, .int t_listN, .int t_listWhat])), ((B_t 7), .inl (Y 0, 8, .inl t_h)), ((B_t 13), .inl (Y 0, 8, .inl t_orbit)), ((B_t 2), .inl (Y 0, 64, .inl t_table))]

set_option maxHeartbeats 20000000 in
set_option maxRecDepth 100000 in
theorem wk_X11_findsOrbits {p : Program} {l : Launch} {e : Env} {R : Room} {s : State} {m : MethodId} {args : Array Value} {below : List Frame} {meth : Method} {c : Code} {Q : State → Prop} {G : va_G} {Y : Nat → ClassId} {tF : Nat} {A : Nat → Prop} (h_t : Nat) (B_t : Nat → Nat) (t_thrown : Int32) (t_n : Int32) (t_modulus : Int32) (t_rows : Int32) (t_strands : Int32) (t_letters : Int32) (t_listedMany : Int32) (t_listN : Int32) (t_listWhat : Int32) (t_h : Nat → Int32) (t_orbit : Nat → Int32) (t_table : Nat → Int32) {K : Int32 → (Nat → Int32) → (Nat → Int32) → Prop} (hx : p.tables.exec = Jvm.exec) (hb : c.code = cX11_findsOrbits) (hml : c.maxLocals = 5) (hown : s.vm.findClass RX11 = some m.cls) (hts : ∀ w ∈ wsX11_findsOrbits, w.before args s = true) (hK : va_K G vwCl (tyL Y) s) (hE : Ev A tF s) (hA : ∀ q, s.heap.size ≤ q → A q) (hRf : 1 ≤ R.frames) (hRl : 24 ≤ R.locals) (hret : ∀ (r : Int32) (t_h : Nat → Int32) (t_orbit : Nat → Int32) (H : Heap) (locs : List Loc) (ls : Array Slot) (pc : Nat), va_P G vwCl (w_X11_findsOrbits Y h_t B_t t_thrown t_n t_modulus t_rows t_strands t_letters t_listedMany t_listN t_listWhat t_h t_orbit t_table) H → va_D A (w_X11_findsOrbits Y h_t B_t t_thrown t_n t_modulus t_rows t_strands t_letters t_listedMany t_listN t_listWhat t_h t_orbit t_table) → va_S A s.heap H locs → K r t_h t_orbit → decode cX11_findsOrbits pc = .ok (.ireturn, 1) → W p l e R s m args below meth c H locs 0 0 Q (F0 m pc ls [.int r])) (hP : va_P G vwCl (w_X11_findsOrbits Y h_t B_t t_thrown t_n t_modulus t_rows t_strands t_letters t_listedMany t_listN t_listWhat t_h t_orbit t_table) s.heap) (hD : va_D A (w_X11_findsOrbits Y h_t B_t t_thrown t_n t_modulus t_rows t_strands t_letters t_listedMany t_listN t_listWhat t_h t_orbit t_table)) (h : pX11_findsOrbits t_n t_h t_orbit t_table K) : W p l e R s m args below meth c s.heap [] 0 0 Q (entryFrame m ([.ref h_t] : List Value).toArray 5) := by
  have inX11 : ∀ w ∈ u_ws RX11 TX11 29, w ∈ wsX11_findsOrbits := by decide +kernel
  have hf44 := hts (.fieldLink RX11 44 "RackBenchModel" "orbit" "[I") (by decide +kernel)
  have hf9 := hts (.fieldLink RX11 9 "RackBenchModel" "n" "I") (by decide +kernel)
  have hl := lv_entry ([.ref h_t]) (n := 5) (Nat.le_of_ble_eq_true rfl)
  rw [lg_entry_eq]
  generalize (lg_sl ([.ref h_t]) ++ List.replicate (5 - (lg_sl ([.ref h_t])).length) Slot.unset).toArray = ls at hl ⊢
  have hl : lv_has ls 5 [(0, .ref h_t)] := hl
  generalize hH0 : s.heap = H at hP ⊢
  have hS : va_S A s.heap H [] := by rw [← hH0]; exact va_S.rf
  clear hH0
  generalize ([] : List Loc) = locs at hS ⊢
  refine lv_iconst (v := 0) hx hb dX11_findsOrbits_0 (by decide) ?_
  refine lv_istore_n (lv' := [(1, .int (0 : Int32)), (0, .ref h_t)]) hx hb dX11_findsOrbits_1 rfl hl (by decide) rfl (fun ls hl => ?_)
  obtain ⟨I2, m2, hI2, hB2⟩ := h
  have L2 : ∀ (t_h : Nat → Int32) (I2 : Int32 → (Nat → Int32) → Prop) (m2 : Int32 → (Nat → Int32) → Nat), (∀ (x1 : Int32) (t_orbit : Nat → Int32), I2 x1 t_orbit → pX11_findsOrbits_2 t_n t_table K t_h x1 t_orbit (fun x1' t_orbit' => I2 x1' t_orbit' ∧ m2 x1' t_orbit' < m2 x1 t_orbit)) → ∀ (n : Nat) (x1 : Int32) (t_orbit : Nat → Int32) (H : Heap) (locs : List Loc) (ls : Array Slot), I2 x1 t_orbit → m2 x1 t_orbit < n → va_P G vwCl (w_X11_findsOrbits Y h_t B_t t_thrown t_n t_modulus t_rows t_strands t_letters t_listedMany t_listN t_listWhat t_h t_orbit t_table) H → va_D A (w_X11_findsOrbits Y h_t B_t t_thrown t_n t_modulus t_rows t_strands t_letters t_listedMany t_listN t_listWhat t_h t_orbit t_table) → va_S A s.heap H locs → lv_has ls 5 [(0, .ref h_t), (1, .int x1)] → W p l e R s m args below meth c H locs 0 0 Q (F0 m 2 ls []) := by
    intro t_h I2 m2 hB2 n
    induction n with
    | zero => intro x1 t_orbit H locs ls _ hm; exact absurd hm (Nat.not_lt_zero _)
    | succ n ih =>
      intro x1 t_orbit H locs ls hI hm hP hD hS hl
      obtain ⟨R2, h, rec2⟩ : ∃ R2 : Int32 → (Nat → Int32) → Prop, pX11_findsOrbits_2 t_n t_table K t_h x1 t_orbit R2 ∧ ∀ (x1 : Int32) (t_orbit : Nat → Int32) (H : Heap) (locs : List Loc) (ls : Array Slot), R2 x1 t_orbit → va_P G vwCl (w_X11_findsOrbits Y h_t B_t t_thrown t_n t_modulus t_rows t_strands t_letters t_listedMany t_listN t_listWhat t_h t_orbit t_table) H → va_D A (w_X11_findsOrbits Y h_t B_t t_thrown t_n t_modulus t_rows t_strands t_letters t_listedMany t_listN t_listWhat t_h t_orbit t_table) → va_S A s.heap H locs → lv_has ls 5 [(0, .ref h_t), (1, .int x1)] → W p l e R s m args below meth c H locs 0 0 Q (F0 m 2 ls []) := ⟨_, hB2 x1 t_orbit hI, fun x1 t_orbit H locs ls hh hP hD hS hl => ih x1 t_orbit H locs ls hh.1 (Nat.lt_of_lt_of_le hh.2 (Nat.le_of_lt_succ hm)) hP hD hS hl⟩
      refine lv_iload_n hx hb dX11_findsOrbits_2 rfl (lv_at hl 1 rfl) ?_
      refine lv_aload_n hx hb dX11_findsOrbits_3 rfl (lv_at hl 0 rfl) ?_
      refine va_get (D := G) (ci := 10) (v := .int t_n) (C := RX11) (T := TX11) (N := 29) hx hb hts inX11 hown hK hP 0 rfl rfl 1 (by decide) hf9 (fun _ h9 => h9) rfl dX11_findsOrbits_4 ?_
      obtain ⟨ht, hf⟩ := h
      refine lv_icmp_ge (tgt := 23) hx hb dX11_findsOrbits_7 (by decide) (fun c9 => ?_) (fun c9 => ?_)
      · have h := ht c9
        refine lv_iconst (v := 0) hx hb dX11_findsOrbits_23 (by decide) ?_
        refine lv_istore_n (lv' := [(1, .int (0 : Int32)), (0, .ref h_t)]) hx hb dX11_findsOrbits_24 rfl hl (by decide) rfl (fun ls hl => ?_)
        obtain ⟨I25, m25, hI25, hB25⟩ := h
        have L25 : ∀ (t_h : Nat → Int32) (I25 : Int32 → (Nat → Int32) → Prop) (m25 : Int32 → (Nat → Int32) → Nat), (∀ (x1 : Int32) (t_orbit : Nat → Int32), I25 x1 t_orbit → pX11_findsOrbits_25 t_n t_table R2 K t_h x1 t_orbit (fun x1' t_orbit' => I25 x1' t_orbit' ∧ m25 x1' t_orbit' < m25 x1 t_orbit)) → ∀ (n : Nat) (x1 : Int32) (t_orbit : Nat → Int32) (H : Heap) (locs : List Loc) (ls : Array Slot), I25 x1 t_orbit → m25 x1 t_orbit < n → va_P G vwCl (w_X11_findsOrbits Y h_t B_t t_thrown t_n t_modulus t_rows t_strands t_letters t_listedMany t_listN t_listWhat t_h t_orbit t_table) H → va_D A (w_X11_findsOrbits Y h_t B_t t_thrown t_n t_modulus t_rows t_strands t_letters t_listedMany t_listN t_listWhat t_h t_orbit t_table) → va_S A s.heap H locs → lv_has ls 5 [(0, .ref h_t), (1, .int x1)] → W p l e R s m args below meth c H locs 0 0 Q (F0 m 25 ls []) := by
          intro t_h I25 m25 hB25 n
          induction n with
          | zero => intro x1 t_orbit H locs ls _ hm; exact absurd hm (Nat.not_lt_zero _)
          | succ n ih =>
            intro x1 t_orbit H locs ls hI hm hP hD hS hl
            obtain ⟨R25, h, rec25⟩ : ∃ R25 : Int32 → (Nat → Int32) → Prop, pX11_findsOrbits_25 t_n t_table R2 K t_h x1 t_orbit R25 ∧ ∀ (x1 : Int32) (t_orbit : Nat → Int32) (H : Heap) (locs : List Loc) (ls : Array Slot), R25 x1 t_orbit → va_P G vwCl (w_X11_findsOrbits Y h_t B_t t_thrown t_n t_modulus t_rows t_strands t_letters t_listedMany t_listN t_listWhat t_h t_orbit t_table) H → va_D A (w_X11_findsOrbits Y h_t B_t t_thrown t_n t_modulus t_rows t_strands t_letters t_listedMany t_listN t_listWhat t_h t_orbit t_table) → va_S A s.heap H locs → lv_has ls 5 [(0, .ref h_t), (1, .int x1)] → W p l e R s m args below meth c H locs 0 0 Q (F0 m 25 ls []) := ⟨_, hB25 x1 t_orbit hI, fun x1 t_orbit H locs ls hh hP hD hS hl => ih x1 t_orbit H locs ls hh.1 (Nat.lt_of_lt_of_le hh.2 (Nat.le_of_lt_succ hm)) hP hD hS hl⟩
            refine lv_iload_n hx hb dX11_findsOrbits_25 rfl (lv_at hl 1 rfl) ?_
            refine lv_aload_n hx hb dX11_findsOrbits_26 rfl (lv_at hl 0 rfl) ?_
            refine va_get (D := G) (ci := 10) (v := .int t_n) (C := RX11) (T := TX11) (N := 29) hx hb hts inX11 hown hK hP 0 rfl rfl 1 (by decide) hf9 (fun _ h9 => h9) rfl dX11_findsOrbits_27 ?_
            obtain ⟨ht, hf⟩ := h
            refine lv_icmp_ge (tgt := 114) hx hb dX11_findsOrbits_30 (by decide) (fun c9 => ?_) (fun c9 => ?_)
            · have h := ht c9
              refine lv_aload_n hx hb dX11_findsOrbits_114 rfl (lv_at hl 0 rfl) ?_
              refine lv_aload_n hx hb dX11_findsOrbits_115 rfl (lv_at hl 0 rfl) ?_
              refine va_get (D := G) (ci := 10) (v := .ref (B_t 13)) (C := RX11) (T := TX11) (N := 29) hx hb hts inX11 hown hK hP 0 rfl rfl 13 (by decide) hf44 (fun _ h9 => h9) rfl dX11_findsOrbits_116 ?_
              refine mc_iV ⟨hx, hb, hml, hown, hts⟩ hK hE hA hP hD hS (c_X11_numbered l G Y tF H.size h_t (B_t 13) B_t 8 t_thrown t_n t_modulus t_rows t_strands t_letters t_listedMany t_listN t_listWhat t_h t_orbit h) (cwV 1 hts gX11_findsOrbits_X11_numbered rfl rfl rfl (by decide +kernel) ⟨Nat.le_trans (by decide) hRf, Nat.le_trans (by decide) hRl⟩) (fun u => (w_X11_findsOrbits Y h_t B_t t_thrown t_n t_modulus t_rows t_strands t_letters t_listedMany t_listN t_listWhat u.1 u.2 t_table)) [0, 1, 2] [3] [1, 2, 3, 0] rfl rfl rfl rfl (by decide) (fun _ => rfl) rfl 0 10 rfl rfl rfl rfl hl.1 rfl (Nat.le_of_ble_eq_true rfl) dX11_findsOrbits_119 (fun r119 u H locs h hP hD hS => ?_)
              obtain ⟨t_h_119, t_orbit_119⟩ := u
              try dsimp only at h
              have hP : va_P G vwCl (w_X11_findsOrbits Y h_t B_t t_thrown t_n t_modulus t_rows t_strands t_letters t_listedMany t_listN t_listWhat t_h_119 t_orbit_119 t_table) H := hP
              have hD : va_D A (w_X11_findsOrbits Y h_t B_t t_thrown t_n t_modulus t_rows t_strands t_letters t_listedMany t_listN t_listWhat t_h_119 t_orbit_119 t_table) := hD
              exact hret r119 t_h_119 t_orbit_119 H locs ls _ hP hD hS h dX11_findsOrbits_122
            · have h := hf c9
              refine lv_iconst (v := 0) hx hb dX11_findsOrbits_33 (by decide) ?_
              refine lv_istore_n (lv' := [(2, .int (0 : Int32)), (0, .ref h_t), (1, .int x1)]) hx hb dX11_findsOrbits_34 rfl hl (by decide) rfl (fun ls hl => ?_)
              obtain ⟨I35, m35, hI35, hB35⟩ := h
              have L35 : ∀ (x1 : Int32) (I35 : Int32 → (Nat → Int32) → Prop) (m35 : Int32 → (Nat → Int32) → Nat), (∀ (x2 : Int32) (t_orbit : Nat → Int32), I35 x2 t_orbit → pX11_findsOrbits_35 t_n t_table R25 K t_h x1 x2 t_orbit (fun x2' t_orbit' => I35 x2' t_orbit' ∧ m35 x2' t_orbit' < m35 x2 t_orbit)) → ∀ (n : Nat) (x2 : Int32) (t_orbit : Nat → Int32) (H : Heap) (locs : List Loc) (ls : Array Slot), I35 x2 t_orbit → m35 x2 t_orbit < n → va_P G vwCl (w_X11_findsOrbits Y h_t B_t t_thrown t_n t_modulus t_rows t_strands t_letters t_listedMany t_listN t_listWhat t_h t_orbit t_table) H → va_D A (w_X11_findsOrbits Y h_t B_t t_thrown t_n t_modulus t_rows t_strands t_letters t_listedMany t_listN t_listWhat t_h t_orbit t_table) → va_S A s.heap H locs → lv_has ls 5 [(0, .ref h_t), (1, .int x1), (2, .int x2)] → W p l e R s m args below meth c H locs 0 0 Q (F0 m 35 ls []) := by
                intro x1 I35 m35 hB35 n
                induction n with
                | zero => intro x2 t_orbit H locs ls _ hm; exact absurd hm (Nat.not_lt_zero _)
                | succ n ih =>
                  intro x2 t_orbit H locs ls hI hm hP hD hS hl
                  obtain ⟨R35, h, rec35⟩ : ∃ R35 : Int32 → (Nat → Int32) → Prop, pX11_findsOrbits_35 t_n t_table R25 K t_h x1 x2 t_orbit R35 ∧ ∀ (x2 : Int32) (t_orbit : Nat → Int32) (H : Heap) (locs : List Loc) (ls : Array Slot), R35 x2 t_orbit → va_P G vwCl (w_X11_findsOrbits Y h_t B_t t_thrown t_n t_modulus t_rows t_strands t_letters t_listedMany t_listN t_listWhat t_h t_orbit t_table) H → va_D A (w_X11_findsOrbits Y h_t B_t t_thrown t_n t_modulus t_rows t_strands t_letters t_listedMany t_listN t_listWhat t_h t_orbit t_table) → va_S A s.heap H locs → lv_has ls 5 [(0, .ref h_t), (1, .int x1), (2, .int x2)] → W p l e R s m args below meth c H locs 0 0 Q (F0 m 35 ls []) := ⟨_, hB35 x2 t_orbit hI, fun x2 t_orbit H locs ls hh hP hD hS hl => ih x2 t_orbit H locs ls hh.1 (Nat.lt_of_lt_of_le hh.2 (Nat.le_of_lt_succ hm)) hP hD hS hl⟩
                  refine lv_iload_n hx hb dX11_findsOrbits_35 rfl (lv_at hl 2 rfl) ?_
                  refine lv_aload_n hx hb dX11_findsOrbits_36 rfl (lv_at hl 0 rfl) ?_
                  refine va_get (D := G) (ci := 10) (v := .int t_n) (C := RX11) (T := TX11) (N := 29) hx hb hts inX11 hown hK hP 0 rfl rfl 1 (by decide) hf9 (fun _ h9 => h9) rfl dX11_findsOrbits_37 ?_
                  obtain ⟨ht, hf⟩ := h
                  refine lv_icmp_ge (tgt := 108) hx hb dX11_findsOrbits_40 (by decide) (fun c9 => ?_) (fun c9 => ?_)
                  · have h := ht c9
                    refine lv_iinc (v := (x1 + 1)) (lv' := [(1, .int (x1 + 1)), (0, .ref h_t), (2, .int x2)]) hx hb dX11_findsOrbits_108 hl (k := 1) rfl rfl (by decide) rfl (fun ls hl => ?_)
                    refine lv_goto (tgt := 25) hx hb dX11_findsOrbits_111 (by decide) ?_
                    exact rec25 (x1 + 1) t_orbit H locs ls h hP hD hS (lv_sub hl [1, 0] rfl)
                  · have h := hf c9
                    refine lv_iconst (v := 0) hx hb dX11_findsOrbits_43 (by decide) ?_
                    refine lv_istore_n (lv' := [(3, .int (0 : Int32)), (0, .ref h_t), (1, .int x1), (2, .int x2)]) hx hb dX11_findsOrbits_44 rfl hl (by decide) rfl (fun ls hl => ?_)
                    obtain ⟨I45, m45, hI45, hB45⟩ := h
                    have L45 : ∀ (x2 : Int32) (I45 : Int32 → (Nat → Int32) → Prop) (m45 : Int32 → (Nat → Int32) → Nat), (∀ (x3 : Int32) (t_orbit : Nat → Int32), I45 x3 t_orbit → pX11_findsOrbits_45 t_n t_table R25 R35 K t_h x1 x2 x3 t_orbit (fun x3' t_orbit' => I45 x3' t_orbit' ∧ m45 x3' t_orbit' < m45 x3 t_orbit)) → ∀ (n : Nat) (x3 : Int32) (t_orbit : Nat → Int32) (H : Heap) (locs : List Loc) (ls : Array Slot), I45 x3 t_orbit → m45 x3 t_orbit < n → va_P G vwCl (w_X11_findsOrbits Y h_t B_t t_thrown t_n t_modulus t_rows t_strands t_letters t_listedMany t_listN t_listWhat t_h t_orbit t_table) H → va_D A (w_X11_findsOrbits Y h_t B_t t_thrown t_n t_modulus t_rows t_strands t_letters t_listedMany t_listN t_listWhat t_h t_orbit t_table) → va_S A s.heap H locs → lv_has ls 5 [(0, .ref h_t), (1, .int x1), (2, .int x2), (3, .int x3)] → W p l e R s m args below meth c H locs 0 0 Q (F0 m 45 ls []) := by
                      intro x2 I45 m45 hB45 n
                      induction n with
                      | zero => intro x3 t_orbit H locs ls _ hm; exact absurd hm (Nat.not_lt_zero _)
                      | succ n ih =>
                        intro x3 t_orbit H locs ls hI hm hP hD hS hl
                        obtain ⟨R45, h, rec45⟩ : ∃ R45 : Int32 → (Nat → Int32) → Prop, pX11_findsOrbits_45 t_n t_table R25 R35 K t_h x1 x2 x3 t_orbit R45 ∧ ∀ (x3 : Int32) (t_orbit : Nat → Int32) (H : Heap) (locs : List Loc) (ls : Array Slot), R45 x3 t_orbit → va_P G vwCl (w_X11_findsOrbits Y h_t B_t t_thrown t_n t_modulus t_rows t_strands t_letters t_listedMany t_listN t_listWhat t_h t_orbit t_table) H → va_D A (w_X11_findsOrbits Y h_t B_t t_thrown t_n t_modulus t_rows t_strands t_letters t_listedMany t_listN t_listWhat t_h t_orbit t_table) → va_S A s.heap H locs → lv_has ls 5 [(0, .ref h_t), (1, .int x1), (2, .int x2), (3, .int x3)] → W p l e R s m args below meth c H locs 0 0 Q (F0 m 45 ls []) := ⟨_, hB45 x3 t_orbit hI, fun x3 t_orbit H locs ls hh hP hD hS hl => ih x3 t_orbit H locs ls hh.1 (Nat.lt_of_lt_of_le hh.2 (Nat.le_of_lt_succ hm)) hP hD hS hl⟩
                        refine lv_iload_n hx hb dX11_findsOrbits_45 rfl (lv_at hl 3 rfl) ?_
                        refine lv_aload_n hx hb dX11_findsOrbits_46 rfl (lv_at hl 0 rfl) ?_
                        refine va_get (D := G) (ci := 10) (v := .int t_n) (C := RX11) (T := TX11) (N := 29) hx hb hts inX11 hown hK hP 0 rfl rfl 1 (by decide) hf9 (fun _ h9 => h9) rfl dX11_findsOrbits_47 ?_
                        obtain ⟨ht, hf⟩ := h
                        refine lv_icmp_ge (tgt := 102) hx hb dX11_findsOrbits_50 (by decide) (fun c9 => ?_) (fun c9 => ?_)
                        · have h := ht c9
                          refine lv_iinc (v := (x2 + 1)) (lv' := [(2, .int (x2 + 1)), (0, .ref h_t), (1, .int x1), (3, .int x3)]) hx hb dX11_findsOrbits_102 hl (k := 2) rfl rfl (by decide) rfl (fun ls hl => ?_)
                          refine lv_goto (tgt := 35) hx hb dX11_findsOrbits_105 (by decide) ?_
                          exact rec35 (x2 + 1) t_orbit H locs ls h hP hD hS (lv_sub hl [1, 2, 0] rfl)
                        · have h := hf c9
                          refine lv_aload_n hx hb dX11_findsOrbits_53 rfl (lv_at hl 0 rfl) ?_
                          refine va_get (D := G) (ci := 10) (v := .ref (B_t 13)) (C := RX11) (T := TX11) (N := 29) hx hb hts inX11 hown hK hP 0 rfl rfl 13 (by decide) hf44 (fun _ h9 => h9) rfl dX11_findsOrbits_54 ?_
                          refine lv_iload_n hx hb dX11_findsOrbits_57 rfl (lv_at hl 3 rfl) ?_
                          obtain ⟨hin, h⟩ := h
                          refine va_iald hx hb hK hP 2 0 rfl rfl hin dX11_findsOrbits_58 ?_
                          refine lv_aload_n hx hb dX11_findsOrbits_59 rfl (lv_at hl 0 rfl) ?_
                          refine va_get (D := G) (ci := 10) (v := .ref (B_t 13)) (C := RX11) (T := TX11) (N := 29) hx hb hts inX11 hown hK hP 0 rfl rfl 13 (by decide) hf44 (fun _ h9 => h9) rfl dX11_findsOrbits_60 ?_
                          refine lv_aload_n hx hb dX11_findsOrbits_63 rfl (lv_at hl 0 rfl) ?_
                          refine lv_iload_n hx hb dX11_findsOrbits_64 rfl (lv_at hl 2 rfl) ?_
                          refine lv_iload_n hx hb dX11_findsOrbits_65 rfl (lv_at hl 3 rfl) ?_
                          refine mc_iV ⟨hx, hb, hml, hown, hts⟩ hK hE hA hP hD hS (c_X11_by l G Y tF H.size h_t B_t t_thrown t_n t_modulus t_rows t_strands t_letters t_listedMany t_listN t_listWhat t_table x2 x3 h) (cwV 2 hts gX11_findsOrbits_X11_by rfl rfl rfl (by decide +kernel) ⟨Nat.le_trans (by decide) hRf, Nat.le_trans (by decide) hRl⟩) (fun u => (w_X11_findsOrbits Y h_t B_t t_thrown t_n t_modulus t_rows t_strands t_letters t_listedMany t_listN t_listWhat t_h t_orbit t_table)) [0, 3] [1, 2] [2, 0, 1, 3] rfl rfl rfl rfl (by decide) (fun _ => rfl) rfl 0 10 rfl rfl rfl rfl hl.1 rfl (Nat.le_of_ble_eq_true rfl) dX11_findsOrbits_66 (fun r66 u H locs h hP hD hS => ?_)
                          try dsimp only at h
                          have hP : va_P G vwCl (w_X11_findsOrbits Y h_t B_t t_thrown t_n t_modulus t_rows t_strands t_letters t_listedMany t_listN t_listWhat t_h t_orbit t_table) H := hP
                          have hD : va_D A (w_X11_findsOrbits Y h_t B_t t_thrown t_n t_modulus t_rows t_strands t_letters t_listedMany t_listN t_listWhat t_h t_orbit t_table) := hD
                          obtain ⟨hin, h⟩ := h
                          refine va_iald hx hb hK hP 2 0 rfl rfl hin dX11_findsOrbits_69 ?_
                          refine va_mmin hx hb (by rw [hml]; exact hl.1.symm) hown (hts (.methodLink RX11 156 Lib.Math.min.name) (by decide +kernel)) (hts (.static Lib.Math.min.name) (by decide +kernel)) (hts (.initialized "java/lang/Math") (by decide +kernel)) (hts (.code Lib.Math.min.name Lib.Math.min.code 2 (some .int)) (by decide +kernel)) (Nat.le_trans (by decide) hRf) (Nat.le_trans (by decide) hRl) (Nat.zero_le _) (Nat.zero_le _) dX11_findsOrbits_70 ?_
                          refine lv_istore (lv' := [(4, .int (if (t_orbit (Int32.toNatClampNeg r66)) < (t_orbit (Int32.toNatClampNeg x3)) then (t_orbit (Int32.toNatClampNeg r66)) else (t_orbit (Int32.toNatClampNeg x3)))), (0, .ref h_t), (1, .int x1), (2, .int x2), (3, .int x3)]) hx hb dX11_findsOrbits_73 hl (by decide) rfl (fun ls hl => ?_)
                          refine lv_aload_n hx hb dX11_findsOrbits_75 rfl (lv_at hl 1 rfl) ?_
                          refine va_get (D := G) (ci := 10) (v := .ref (B_t 13)) (C := RX11) (T := TX11) (N := 29) hx hb hts inX11 hown hK hP 0 rfl rfl 13 (by decide) hf44 (fun _ h9 => h9) rfl dX11_findsOrbits_76 ?_
                          refine lv_iload_n hx hb dX11_findsOrbits_79 rfl (lv_at hl 4 rfl) ?_
                          refine lv_iload hx hb dX11_findsOrbits_80 (lv_at hl 0 rfl) ?_
                          obtain ⟨hin, h⟩ := h
                          refine va_iast hx hb hK hP hD hS 2 0 rfl rfl hin dX11_findsOrbits_82 (fun H locs hP hD hS => ?_)
                          have hP : va_P G vwCl (w_X11_findsOrbits Y h_t B_t t_thrown t_n t_modulus t_rows t_strands t_letters t_listedMany t_listN t_listWhat t_h (upd t_orbit (Int32.toNatClampNeg x3) (if (t_orbit (Int32.toNatClampNeg r66)) < (t_orbit (Int32.toNatClampNeg x3)) then (t_orbit (Int32.toNatClampNeg r66)) else (t_orbit (Int32.toNatClampNeg x3)))) t_table) H := hP
                          have hD : va_D A (w_X11_findsOrbits Y h_t B_t t_thrown t_n t_modulus t_rows t_strands t_letters t_listedMany t_listN t_listWhat t_h (upd t_orbit (Int32.toNatClampNeg x3) (if (t_orbit (Int32.toNatClampNeg r66)) < (t_orbit (Int32.toNatClampNeg x3)) then (t_orbit (Int32.toNatClampNeg r66)) else (t_orbit (Int32.toNatClampNeg x3)))) t_table) := hD
                          refine lv_aload_n hx hb dX11_findsOrbits_83 rfl (lv_at hl 1 rfl) ?_
                          refine va_get (D := G) (ci := 10) (v := .ref (B_t 13)) (C := RX11) (T := TX11) (N := 29) hx hb hts inX11 hown hK hP 0 rfl rfl 13 (by decide) hf44 (fun _ h9 => h9) rfl dX11_findsOrbits_84 ?_
                          refine lv_aload_n hx hb dX11_findsOrbits_87 rfl (lv_at hl 1 rfl) ?_
                          refine lv_iload_n hx hb dX11_findsOrbits_88 rfl (lv_at hl 3 rfl) ?_
                          refine lv_iload_n hx hb dX11_findsOrbits_89 rfl (lv_at hl 4 rfl) ?_
                          refine mc_iV ⟨hx, hb, hml, hown, hts⟩ hK hE hA hP hD hS (c_X11_by l G Y tF H.size h_t B_t t_thrown t_n t_modulus t_rows t_strands t_letters t_listedMany t_listN t_listWhat t_table x2 x3 h) (cwV 2 hts gX11_findsOrbits_X11_by rfl rfl rfl (by decide +kernel) ⟨Nat.le_trans (by decide) hRf, Nat.le_trans (by decide) hRl⟩) (fun u => (w_X11_findsOrbits Y h_t B_t t_thrown t_n t_modulus t_rows t_strands t_letters t_listedMany t_listN t_listWhat t_h (upd t_orbit (Int32.toNatClampNeg x3) (if (t_orbit (Int32.toNatClampNeg r66)) < (t_orbit (Int32.toNatClampNeg x3)) then (t_orbit (Int32.toNatClampNeg r66)) else (t_orbit (Int32.toNatClampNeg x3)))) t_table)) [0, 3] [1, 2] [2, 0, 1, 3] rfl rfl rfl rfl (by decide) (fun _ => rfl) rfl 0 10 rfl rfl rfl rfl hl.1 rfl (Nat.le_of_ble_eq_true rfl) dX11_findsOrbits_90 (fun r90 u H locs h hP hD hS => ?_)
                          try dsimp only at h
                          have hP : va_P G vwCl (w_X11_findsOrbits Y h_t B_t t_thrown t_n t_modulus t_rows t_strands t_letters t_listedMany t_listN t_listWhat t_h (upd t_orbit (Int32.toNatClampNeg x3) (if (t_orbit (Int32.toNatClampNeg r66)) < (t_orbit (Int32.toNatClampNeg x3)) then (t_orbit (Int32.toNatClampNeg r66)) else (t_orbit (Int32.toNatClampNeg x3)))) t_table) H := hP
                          have hD : va_D A (w_X11_findsOrbits Y h_t B_t t_thrown t_n t_modulus t_rows t_strands t_letters t_listedMany t_listN t_listWhat t_h (upd t_orbit (Int32.toNatClampNeg x3) (if (t_orbit (Int32.toNatClampNeg r66)) < (t_orbit (Int32.toNatClampNeg x3)) then (t_orbit (Int32.toNatClampNeg r66)) else (t_orbit (Int32.toNatClampNeg x3)))) t_table) := hD
                          refine lv_iload hx hb dX11_findsOrbits_93 (lv_at hl 0 rfl) ?_
                          obtain ⟨hin, h⟩ := h
                          refine va_iast hx hb hK hP hD hS 2 0 rfl rfl hin dX11_findsOrbits_95 (fun H locs hP hD hS => ?_)
                          have hP : va_P G vwCl (w_X11_findsOrbits Y h_t B_t t_thrown t_n t_modulus t_rows t_strands t_letters t_listedMany t_listN t_listWhat t_h (upd (upd t_orbit (Int32.toNatClampNeg x3) (if (t_orbit (Int32.toNatClampNeg r66)) < (t_orbit (Int32.toNatClampNeg x3)) then (t_orbit (Int32.toNatClampNeg r66)) else (t_orbit (Int32.toNatClampNeg x3)))) (Int32.toNatClampNeg r90) (if (t_orbit (Int32.toNatClampNeg r66)) < (t_orbit (Int32.toNatClampNeg x3)) then (t_orbit (Int32.toNatClampNeg r66)) else (t_orbit (Int32.toNatClampNeg x3)))) t_table) H := hP
                          have hD : va_D A (w_X11_findsOrbits Y h_t B_t t_thrown t_n t_modulus t_rows t_strands t_letters t_listedMany t_listN t_listWhat t_h (upd (upd t_orbit (Int32.toNatClampNeg x3) (if (t_orbit (Int32.toNatClampNeg r66)) < (t_orbit (Int32.toNatClampNeg x3)) then (t_orbit (Int32.toNatClampNeg r66)) else (t_orbit (Int32.toNatClampNeg x3)))) (Int32.toNatClampNeg r90) (if (t_orbit (Int32.toNatClampNeg r66)) < (t_orbit (Int32.toNatClampNeg x3)) then (t_orbit (Int32.toNatClampNeg r66)) else (t_orbit (Int32.toNatClampNeg x3)))) t_table) := hD
                          refine lv_iinc (v := (x3 + 1)) (lv' := [(3, .int (x3 + 1)), (4, .int (if (t_orbit (Int32.toNatClampNeg r66)) < (t_orbit (Int32.toNatClampNeg x3)) then (t_orbit (Int32.toNatClampNeg r66)) else (t_orbit (Int32.toNatClampNeg x3)))), (0, .ref h_t), (1, .int x1), (2, .int x2)]) hx hb dX11_findsOrbits_96 hl (k := 4) rfl rfl (by decide) rfl (fun ls hl => ?_)
                          refine lv_goto (tgt := 45) hx hb dX11_findsOrbits_99 (by decide) ?_
                          exact rec45 (x3 + 1) (upd (upd t_orbit (Int32.toNatClampNeg x3) (if (t_orbit (Int32.toNatClampNeg r66)) < (t_orbit (Int32.toNatClampNeg x3)) then (t_orbit (Int32.toNatClampNeg r66)) else (t_orbit (Int32.toNatClampNeg x3)))) (Int32.toNatClampNeg r90) (if (t_orbit (Int32.toNatClampNeg r66)) < (t_orbit (Int32.toNatClampNeg x3)) then (t_orbit (Int32.toNatClampNeg r66)) else (t_orbit (Int32.toNatClampNeg x3)))) H locs ls h hP hD hS (lv_sub hl [2, 3, 4, 0] rfl)
                    exact L45 x2 I45 m45 hB45 _ (0 : Int32) t_orbit H locs ls hI45 (Nat.lt_succ_self _) hP hD hS (lv_sub hl [1, 2, 3, 0] rfl)
              exact L35 x1 I35 m35 hB35 _ (0 : Int32) t_orbit H locs ls hI35 (Nat.lt_succ_self _) hP hD hS (lv_sub hl [1, 2, 0] rfl)
        exact L25 t_h I25 m25 hB25 _ (0 : Int32) t_orbit H locs ls hI25 (Nat.lt_succ_self _) hP hD hS (lv_sub hl [1, 0] rfl)
      · have h := hf c9
        refine lv_aload_n hx hb dX11_findsOrbits_10 rfl (lv_at hl 0 rfl) ?_
        refine va_get (D := G) (ci := 10) (v := .ref (B_t 13)) (C := RX11) (T := TX11) (N := 29) hx hb hts inX11 hown hK hP 0 rfl rfl 13 (by decide) hf44 (fun _ h9 => h9) rfl dX11_findsOrbits_11 ?_
        refine lv_iload_n hx hb dX11_findsOrbits_14 rfl (lv_at hl 1 rfl) ?_
        refine lv_iload_n hx hb dX11_findsOrbits_15 rfl (lv_at hl 1 rfl) ?_
        obtain ⟨hin, h⟩ := h
        refine va_iast hx hb hK hP hD hS 2 0 rfl rfl hin dX11_findsOrbits_16 (fun H locs hP hD hS => ?_)
        have hP : va_P G vwCl (w_X11_findsOrbits Y h_t B_t t_thrown t_n t_modulus t_rows t_strands t_letters t_listedMany t_listN t_listWhat t_h (upd t_orbit (Int32.toNatClampNeg x1) x1) t_table) H := hP
        have hD : va_D A (w_X11_findsOrbits Y h_t B_t t_thrown t_n t_modulus t_rows t_strands t_letters t_listedMany t_listN t_listWhat t_h (upd t_orbit (Int32.toNatClampNeg x1) x1) t_table) := hD
        refine lv_iinc (v := (x1 + 1)) (lv' := [(1, .int (x1 + 1)), (0, .ref h_t)]) hx hb dX11_findsOrbits_17 hl (k := 1) rfl rfl (by decide) rfl (fun ls hl => ?_)
        refine lv_goto (tgt := 2) hx hb dX11_findsOrbits_20 (by decide) ?_
        exact rec2 (x1 + 1) (upd t_orbit (Int32.toNatClampNeg x1) x1) H locs ls h hP hD hS (lv_sub hl [1, 0] rfl)
  exact L2 t_h I2 m2 hB2 _ (0 : Int32) t_orbit H locs ls hI2 (Nat.lt_succ_self _) hP hD hS (lv_sub hl [1, 0] rfl)

set_option maxHeartbeats 20000000 in
set_option maxRecDepth 100000 in
theorem c_X11_findsOrbits (l : Launch) (G : va_G) (Y : Nat → ClassId) (tF sz : Nat) (h_t : Nat) (B_t : Nat → Nat) (t_thrown : Int32) (t_n : Int32) (t_modulus : Int32) (t_rows : Int32) (t_strands : Int32) (t_letters : Int32) (t_listedMany : Int32) (t_listN : Int32) (t_listWhat : Int32) (t_h : Nat → Int32) (t_orbit : Nat → Int32) (t_table : Nat → Int32) {K : Int32 → (Nat → Int32) → (Nat → Int32) → Prop} (h : pX11_findsOrbits t_n t_h t_orbit t_table K) : Met l yX11_findsOrbits wsX11_findsOrbits ({ frames := 1, cells := 0, slots := 0, locals := 24 }) (PcM G Y tF sz (w_X11_findsOrbits Y h_t B_t t_thrown t_n t_modulus t_rows t_strands t_letters t_listedMany t_listN t_listWhat t_h t_orbit t_table) [.ref h_t]) (va_Qi (fun (r : Int32) (u : (Nat → Int32) × (Nat → Int32)) => K r u.1 u.2) (fun u t => BM G Y (va_A (w_X11_findsOrbits Y h_t B_t t_thrown t_n t_modulus t_rows t_strands t_letters t_listedMany t_listN t_listWhat t_h t_orbit t_table) sz) (w_X11_findsOrbits Y h_t B_t t_thrown t_n t_modulus t_rows t_strands t_letters t_listedMany t_listN t_listWhat u.1 u.2 t_table) t) (va_A (w_X11_findsOrbits Y h_t B_t t_thrown t_n t_modulus t_rows t_strands t_letters t_listedMany t_listN t_listWhat t_h t_orbit t_table) sz)) 0 0 (va_A (w_X11_findsOrbits Y h_t B_t t_thrown t_n t_modulus t_rows t_strands t_letters t_listedMany t_listN t_listWhat t_h t_orbit t_table) sz) := by
  refine Met.ofW (cc := cX11_findsOrbits) (maxL := 5) (ret := (some .int)) (by decide +kernel) rfl ?_
  intro p e s m args below meth c s₁ B hml hv
  obtain ⟨rfl, hsz, hP, hK, hD0, hE⟩ := hv
  have hts := atoms_spec (ws := wsX11_findsOrbits) B.pre
  have hown : s.vm.findClass RX11 = some m.cls := findClass_of_methodNamed B.named
  have hlocks := B.notSynchronized
  subst hsz
  have hD := hD0.self (sz := s.heap.size)
  exact wk_X11_findsOrbits h_t B_t t_thrown t_n t_modulus t_rows t_strands t_letters t_listedMany t_listN t_listWhat t_h t_orbit t_table B.exec B.bytes hml hown hts hK hE (fun q h => Or.inr h) (Nat.le_refl _) (Nat.le_refl _) (fun r t_h t_orbit H locs ls pc hP hD hS hk hd => W.iret (v := r) B.exec B.bytes B.returns (fun t ht hW => ⟨⟨r, (t_h, t_orbit), rfl, hk, by rw [ht]; exact hP, va_K.moved hW.alike hK, hD⟩, hS.F ht⟩) hS.2.2 hd) hP hD h

abbrev w_X11_sameRows (Y : Nat → ClassId) (h_t : Nat) (B_t : Nat → Nat) (t_thrown : Int32) (t_n : Int32) (t_modulus : Int32) (t_rows : Int32) (t_strands : Int32) (t_letters : Int32) (t_listedMany : Int32) (t_listN : Int32) (t_listWhat : Int32) (t_table : Nat → Int32) : va_W := [(h_t, .inr (10, [.int t_thrown, .int t_n, .ref (B_t 2), .int t_modulus, .ref (B_t 4), .ref (B_t 5), .ref (B_t 6), .ref (B_t 7), .ref (B_t 8), .ref (B_t 9), .ref (B_t 10), .int t_rows, .ref (B_t 12), .ref (B_t 13), .ref (B_t 14), .ref (B_t 15), .ref (B_t 16), .ref (B_t 17), .ref (B_t 18), .ref (B_t 19), .int t_strands, .int t_letters, .ref (B_t 22), .ref (B_t 23), .ref (B_t 24), .ref (B_t 25), .int t_listedMany, .int t_listN, .int t_listWhat])), ((B_t 2), .inl (Y 0, 64, .inl t_table))]

set_option maxHeartbeats 20000000 in
set_option maxRecDepth 100000 in
theorem wk_X11_sameRows {p : Program} {l : Launch} {e : Env} {R : Room} {s : State} {m : MethodId} {args : Array Value} {below : List Frame} {meth : Method} {c : Code} {Q : State → Prop} {G : va_G} {Y : Nat → ClassId} {tF : Nat} {A : Nat → Prop} (h_t : Nat) (B_t : Nat → Nat) (t_thrown : Int32) (t_n : Int32) (t_modulus : Int32) (t_rows : Int32) (t_strands : Int32) (t_letters : Int32) (t_listedMany : Int32) (t_listN : Int32) (t_listWhat : Int32) (t_table : Nat → Int32) (x1 : Int32) (x2 : Int32) {K : Int32 → Prop} (hx : p.tables.exec = Jvm.exec) (hb : c.code = cX11_sameRows) (hml : c.maxLocals = 5) (hown : s.vm.findClass RX11 = some m.cls) (hts : ∀ w ∈ wsX11_sameRows, w.before args s = true) (hK : va_K G vwCl (tyL Y) s) (hE : Ev A tF s) (hA : ∀ q, s.heap.size ≤ q → A q) (hRf : 1 ≤ R.frames) (hRl : 22 ≤ R.locals) (hret : ∀ (r : Int32)  (H : Heap) (locs : List Loc) (ls : Array Slot) (pc : Nat), va_P G vwCl (w_X11_sameRows Y h_t B_t t_thrown t_n t_modulus t_rows t_strands t_letters t_listedMany t_listN t_listWhat t_table) H → va_D A (w_X11_sameRows Y h_t B_t t_thrown t_n t_modulus t_rows t_strands t_letters t_listedMany t_listN t_listWhat t_table) → va_S A s.heap H locs → zb r → K r → decode cX11_sameRows pc = .ok (.ireturn, 1) → W p l e R s m args below meth c H locs 0 0 Q (F0 m pc ls [.int r])) (hP : va_P G vwCl (w_X11_sameRows Y h_t B_t t_thrown t_n t_modulus t_rows t_strands t_letters t_listedMany t_listN t_listWhat t_table) s.heap) (hD : va_D A (w_X11_sameRows Y h_t B_t t_thrown t_n t_modulus t_rows t_strands t_letters t_listedMany t_listN t_listWhat t_table)) (h : pX11_sameRows t_n t_table x1 x2 K) : W p l e R s m args below meth c s.heap [] 0 0 Q (entryFrame m ([.ref h_t, .int x1, .int x2] : List Value).toArray 5) := by
  have inX11 : ∀ w ∈ u_ws RX11 TX11 29, w ∈ wsX11_sameRows := by decide +kernel
  have hf9 := hts (.fieldLink RX11 9 "RackBenchModel" "n" "I") (by decide +kernel)
  have hl := lv_entry ([.ref h_t, .int x1, .int x2]) (n := 5) (Nat.le_of_ble_eq_true rfl)
  rw [lg_entry_eq]
  generalize (lg_sl ([.ref h_t, .int x1, .int x2]) ++ List.replicate (5 - (lg_sl ([.ref h_t, .int x1, .int x2])).length) Slot.unset).toArray = ls at hl ⊢
  have hl : lv_has ls 5 [(0, .ref h_t), (1, .int x1), (2, .int x2)] := hl
  generalize hH0 : s.heap = H at hP ⊢
  have hS : va_S A s.heap H [] := by rw [← hH0]; exact va_S.rf
  clear hH0
  generalize ([] : List Loc) = locs at hS ⊢
  refine lv_iconst (v := 1) hx hb dX11_sameRows_0 (by decide) ?_
  refine lv_istore_n (lv' := [(3, .int (1 : Int32)), (0, .ref h_t), (1, .int x1), (2, .int x2)]) hx hb dX11_sameRows_1 rfl hl (by decide) rfl (fun ls hl => ?_)
  refine lv_iconst (v := 0) hx hb dX11_sameRows_2 (by decide) ?_
  refine lv_istore (lv' := [(4, .int (0 : Int32)), (3, .int (1 : Int32)), (0, .ref h_t), (1, .int x1), (2, .int x2)]) hx hb dX11_sameRows_3 hl (by decide) rfl (fun ls hl => ?_)
  obtain ⟨I5, m5, hI5, hB5⟩ := h
  have L5 : ∀ (x1 : Int32) (x2 : Int32) (I5 : Int32 → Int32 → Prop) (m5 : Int32 → Int32 → Nat), (∀ (x3 : Int32) (x4 : Int32), I5 x3 x4 → pX11_sameRows_5 t_n t_table K x1 x2 x3 x4 (fun x3' x4' => I5 x3' x4' ∧ m5 x3' x4' < m5 x3 x4)) → ∀ (n : Nat) (x3 : Int32) (x4 : Int32) (H : Heap) (locs : List Loc) (ls : Array Slot), I5 x3 x4 → m5 x3 x4 < n → va_P G vwCl (w_X11_sameRows Y h_t B_t t_thrown t_n t_modulus t_rows t_strands t_letters t_listedMany t_listN t_listWhat t_table) H → va_D A (w_X11_sameRows Y h_t B_t t_thrown t_n t_modulus t_rows t_strands t_letters t_listedMany t_listN t_listWhat t_table) → va_S A s.heap H locs → lv_has ls 5 [(0, .ref h_t), (1, .int x1), (2, .int x2), (3, .int x3), (4, .int x4)] → W p l e R s m args below meth c H locs 0 0 Q (F0 m 5 ls []) := by
    intro x1 x2 I5 m5 hB5 n
    induction n with
    | zero => intro x3 x4 H locs ls _ hm; exact absurd hm (Nat.not_lt_zero _)
    | succ n ih =>
      intro x3 x4 H locs ls hI hm hP hD hS hl
      obtain ⟨R5, h, rec5⟩ : ∃ R5 : Int32 → Int32 → Prop, pX11_sameRows_5 t_n t_table K x1 x2 x3 x4 R5 ∧ ∀ (x3 : Int32) (x4 : Int32) (H : Heap) (locs : List Loc) (ls : Array Slot), R5 x3 x4 → va_P G vwCl (w_X11_sameRows Y h_t B_t t_thrown t_n t_modulus t_rows t_strands t_letters t_listedMany t_listN t_listWhat t_table) H → va_D A (w_X11_sameRows Y h_t B_t t_thrown t_n t_modulus t_rows t_strands t_letters t_listedMany t_listN t_listWhat t_table) → va_S A s.heap H locs → lv_has ls 5 [(0, .ref h_t), (1, .int x1), (2, .int x2), (3, .int x3), (4, .int x4)] → W p l e R s m args below meth c H locs 0 0 Q (F0 m 5 ls []) := ⟨_, hB5 x3 x4 hI, fun x3 x4 H locs ls hh hP hD hS hl => ih x3 x4 H locs ls hh.1 (Nat.lt_of_lt_of_le hh.2 (Nat.le_of_lt_succ hm)) hP hD hS hl⟩
      have J39 : ∀ (x4 : Int32) (H : Heap) (locs : List Loc) (ls : Array Slot), pX11_sameRows_39 t_n t_table R5 K x1 x2 x4 → va_P G vwCl (w_X11_sameRows Y h_t B_t t_thrown t_n t_modulus t_rows t_strands t_letters t_listedMany t_listN t_listWhat t_table) H → va_D A (w_X11_sameRows Y h_t B_t t_thrown t_n t_modulus t_rows t_strands t_letters t_listedMany t_listN t_listWhat t_table) → va_S A s.heap H locs → lv_has ls 5 [(0, .ref h_t), (1, .int x1), (2, .int x2), (4, .int x4)] → W p l e R s m args below meth c H locs 0 0 Q (F0 m 39 ls []) := by
        intro x4 H locs ls h hP hD hS hl
        refine lv_iconst (v := 0) hx hb dX11_sameRows_39 (by decide) ?_
        refine lv_istore_n (lv' := [(3, .int (0 : Int32)), (0, .ref h_t), (1, .int x1), (2, .int x2), (4, .int x4)]) hx hb dX11_sameRows_40 rfl hl (by decide) rfl (fun ls hl => ?_)
        refine lv_iinc (v := (x4 + 1)) (lv' := [(4, .int (x4 + 1)), (3, .int (0 : Int32)), (0, .ref h_t), (1, .int x1), (2, .int x2)]) hx hb dX11_sameRows_41 hl (k := 4) rfl rfl (by decide) rfl (fun ls hl => ?_)
        refine lv_goto (tgt := 5) hx hb dX11_sameRows_44 (by decide) ?_
        exact rec5 (0 : Int32) (x4 + 1) H locs ls h hP hD hS (lv_sub hl [2, 3, 4, 1, 0] rfl)
      refine lv_iload hx hb dX11_sameRows_5 (lv_at hl 4 rfl) ?_
      refine lv_aload_n hx hb dX11_sameRows_7 rfl (lv_at hl 0 rfl) ?_
      refine va_get (D := G) (ci := 10) (v := .int t_n) (C := RX11) (T := TX11) (N := 29) hx hb hts inX11 hown hK hP 0 rfl rfl 1 (by decide) hf9 (fun _ h9 => h9) rfl dX11_sameRows_8 ?_
      obtain ⟨ht, hf⟩ := h
      refine lv_icmp_ge (tgt := 47) hx hb dX11_sameRows_11 (by decide) (fun c9 => ?_) (fun c9 => ?_)
      · have h := ht c9
        refine lv_iload_n hx hb dX11_sameRows_47 rfl (lv_at hl 3 rfl) ?_
        obtain ⟨hz, h⟩ := h
        exact hret x3  H locs ls _ hP hD hS hz h dX11_sameRows_48
      · have h := hf c9
        refine lv_iload_n hx hb dX11_sameRows_14 rfl (lv_at hl 3 rfl) ?_
        obtain ⟨ht, hf⟩ := h
        refine lv_if_eq (tgt := 39) hx hb dX11_sameRows_15 (by decide) (fun c9 => ?_) (fun c9 => ?_)
        · have h := ht c9
          exact J39 x4 H locs ls h hP hD hS (lv_sub hl [0, 1, 2, 4] rfl)
        · have h := hf c9
          refine lv_aload_n hx hb dX11_sameRows_18 rfl (lv_at hl 0 rfl) ?_
          refine lv_iload_n hx hb dX11_sameRows_19 rfl (lv_at hl 1 rfl) ?_
          refine lv_iload hx hb dX11_sameRows_20 (lv_at hl 4 rfl) ?_
          refine mc_iV ⟨hx, hb, hml, hown, hts⟩ hK hE hA hP hD hS (c_X11_by l G Y tF H.size h_t B_t t_thrown t_n t_modulus t_rows t_strands t_letters t_listedMany t_listN t_listWhat t_table x1 x4 h) (cwV 2 hts gX11_sameRows_X11_by rfl rfl rfl (by decide +kernel) ⟨Nat.le_trans (by decide) hRf, Nat.le_trans (by decide) hRl⟩) (fun u => (w_X11_sameRows Y h_t B_t t_thrown t_n t_modulus t_rows t_strands t_letters t_listedMany t_listN t_listWhat t_table)) [0, 1] [] [0, 1] rfl rfl rfl rfl (by decide) (fun _ => rfl) rfl 0 10 rfl rfl rfl rfl hl.1 rfl (Nat.le_of_ble_eq_true rfl) dX11_sameRows_22 (fun r22 u H locs h hP hD hS => ?_)
          try dsimp only at h
          have hP : va_P G vwCl (w_X11_sameRows Y h_t B_t t_thrown t_n t_modulus t_rows t_strands t_letters t_listedMany t_listN t_listWhat t_table) H := hP
          have hD : va_D A (w_X11_sameRows Y h_t B_t t_thrown t_n t_modulus t_rows t_strands t_letters t_listedMany t_listN t_listWhat t_table) := hD
          refine lv_aload_n hx hb dX11_sameRows_25 rfl (lv_at hl 0 rfl) ?_
          refine lv_iload_n hx hb dX11_sameRows_26 rfl (lv_at hl 2 rfl) ?_
          refine lv_iload hx hb dX11_sameRows_27 (lv_at hl 4 rfl) ?_
          refine mc_iV ⟨hx, hb, hml, hown, hts⟩ hK hE hA hP hD hS (c_X11_by l G Y tF H.size h_t B_t t_thrown t_n t_modulus t_rows t_strands t_letters t_listedMany t_listN t_listWhat t_table x2 x4 h) (cwV 2 hts gX11_sameRows_X11_by rfl rfl rfl (by decide +kernel) ⟨Nat.le_trans (by decide) hRf, Nat.le_trans (by decide) hRl⟩) (fun u => (w_X11_sameRows Y h_t B_t t_thrown t_n t_modulus t_rows t_strands t_letters t_listedMany t_listN t_listWhat t_table)) [0, 1] [] [0, 1] rfl rfl rfl rfl (by decide) (fun _ => rfl) rfl 0 10 rfl rfl rfl rfl hl.1 rfl (Nat.le_of_ble_eq_true rfl) dX11_sameRows_29 (fun r29 u H locs h hP hD hS => ?_)
          try dsimp only at h
          have hP : va_P G vwCl (w_X11_sameRows Y h_t B_t t_thrown t_n t_modulus t_rows t_strands t_letters t_listedMany t_listN t_listWhat t_table) H := hP
          have hD : va_D A (w_X11_sameRows Y h_t B_t t_thrown t_n t_modulus t_rows t_strands t_letters t_listedMany t_listN t_listWhat t_table) := hD
          obtain ⟨ht, hf⟩ := h
          refine lv_icmp_ne (tgt := 39) hx hb dX11_sameRows_32 (by decide) (fun c9 => ?_) (fun c9 => ?_)
          · have h := ht c9
            exact J39 x4 H locs ls h hP hD hS (lv_sub hl [0, 1, 2, 4] rfl)
          · have h := hf c9
            refine lv_iconst (v := 1) hx hb dX11_sameRows_35 (by decide) ?_
            refine lv_goto (tgt := 40) hx hb dX11_sameRows_36 (by decide) ?_
            refine lv_istore_n (lv' := [(3, .int (1 : Int32)), (0, .ref h_t), (1, .int x1), (2, .int x2), (4, .int x4)]) hx hb dX11_sameRows_40 rfl hl (by decide) rfl (fun ls hl => ?_)
            refine lv_iinc (v := (x4 + 1)) (lv' := [(4, .int (x4 + 1)), (3, .int (1 : Int32)), (0, .ref h_t), (1, .int x1), (2, .int x2)]) hx hb dX11_sameRows_41 hl (k := 4) rfl rfl (by decide) rfl (fun ls hl => ?_)
            refine lv_goto (tgt := 5) hx hb dX11_sameRows_44 (by decide) ?_
            exact rec5 (1 : Int32) (x4 + 1) H locs ls h hP hD hS (lv_sub hl [2, 3, 4, 1, 0] rfl)
  exact L5 x1 x2 I5 m5 hB5 _ (1 : Int32) (0 : Int32) H locs ls hI5 (Nat.lt_succ_self _) hP hD hS (lv_sub hl [2, 3, 4, 1, 0] rfl)

set_option maxHeartbeats 20000000 in
set_option maxRecDepth 100000 in
theorem c_X11_sameRows (l : Launch) (G : va_G) (Y : Nat → ClassId) (tF sz : Nat) (h_t : Nat) (B_t : Nat → Nat) (t_thrown : Int32) (t_n : Int32) (t_modulus : Int32) (t_rows : Int32) (t_strands : Int32) (t_letters : Int32) (t_listedMany : Int32) (t_listN : Int32) (t_listWhat : Int32) (t_table : Nat → Int32) (x1 : Int32) (x2 : Int32) {K : Int32 → Prop} (h : pX11_sameRows t_n t_table x1 x2 K) : Met l yX11_sameRows wsX11_sameRows ({ frames := 1, cells := 0, slots := 0, locals := 22 }) (PcM G Y tF sz (w_X11_sameRows Y h_t B_t t_thrown t_n t_modulus t_rows t_strands t_letters t_listedMany t_listN t_listWhat t_table) [.ref h_t, .int x1, .int x2]) (va_Qi (fun (r : Int32) (u : Unit) => K r ) (fun u t => BM G Y (va_A (w_X11_sameRows Y h_t B_t t_thrown t_n t_modulus t_rows t_strands t_letters t_listedMany t_listN t_listWhat t_table) sz) (w_X11_sameRows Y h_t B_t t_thrown t_n t_modulus t_rows t_strands t_letters t_listedMany t_listN t_listWhat t_table) t) (va_A (w_X11_sameRows Y h_t B_t t_thrown t_n t_modulus t_rows t_strands t_letters t_listedMany t_listN t_listWhat t_table) sz)) 0 0 (va_A (w_X11_sameRows Y h_t B_t t_thrown t_n t_modulus t_rows t_strands t_letters t_listedMany t_listN t_listWhat t_table) sz) := by
  refine Met.ofW (cc := cX11_sameRows) (maxL := 5) (ret := (some .boolean)) (by decide +kernel) rfl ?_
  intro p e s m args below meth c s₁ B hml hv
  obtain ⟨rfl, hsz, hP, hK, hD0, hE⟩ := hv
  have hts := atoms_spec (ws := wsX11_sameRows) B.pre
  have hown : s.vm.findClass RX11 = some m.cls := findClass_of_methodNamed B.named
  have hlocks := B.notSynchronized
  subst hsz
  have hD := hD0.self (sz := s.heap.size)
  exact wk_X11_sameRows h_t B_t t_thrown t_n t_modulus t_rows t_strands t_letters t_listedMany t_listN t_listWhat t_table x1 x2 B.exec B.bytes hml hown hts hK hE (fun q h => Or.inr h) (Nat.le_refl _) (Nat.le_refl _) (fun r  H locs ls pc hP hD hS hz hk hd => W.zret (v := r) B.exec B.bytes B.returns hz.n (fun t ht hW => ⟨⟨r, (), rfl, hk, by rw [ht]; exact hP, va_K.moved hW.alike hK, hD⟩, hS.F ht⟩) hS.2.2 hd) hP hD h

abbrev w_X11_is (Y : Nat → ClassId) (h_t : Nat) (B_t : Nat → Nat) (t_thrown : Int32) (t_n : Int32) (t_modulus : Int32) (t_rows : Int32) (t_strands : Int32) (t_letters : Int32) (t_listedMany : Int32) (t_listN : Int32) (t_listWhat : Int32) (t_h : Nat → Int32) (t_orbit : Nat → Int32) (t_table : Nat → Int32) : va_W := [(h_t, .inr (10, [.int t_thrown, .int t_n, .ref (B_t 2), .int t_modulus, .ref (B_t 4), .ref (B_t 5), .ref (B_t 6), .ref (B_t 7), .ref (B_t 8), .ref (B_t 9), .ref (B_t 10), .int t_rows, .ref (B_t 12), .ref (B_t 13), .ref (B_t 14), .ref (B_t 15), .ref (B_t 16), .ref (B_t 17), .ref (B_t 18), .ref (B_t 19), .int t_strands, .int t_letters, .ref (B_t 22), .ref (B_t 23), .ref (B_t 24), .ref (B_t 25), .int t_listedMany, .int t_listN, .int t_listWhat])), ((B_t 7), .inl (Y 0, 8, .inl t_h)), ((B_t 13), .inl (Y 0, 8, .inl t_orbit)), ((B_t 2), .inl (Y 0, 64, .inl t_table))]

set_option maxHeartbeats 20000000 in
set_option maxRecDepth 100000 in
theorem wk_X11_is {p : Program} {l : Launch} {e : Env} {R : Room} {s : State} {m : MethodId} {args : Array Value} {below : List Frame} {meth : Method} {c : Code} {Q : State → Prop} {G : va_G} {Y : Nat → ClassId} {tF : Nat} {A : Nat → Prop} (h_t : Nat) (B_t : Nat → Nat) (t_thrown : Int32) (t_n : Int32) (t_modulus : Int32) (t_rows : Int32) (t_strands : Int32) (t_letters : Int32) (t_listedMany : Int32) (t_listN : Int32) (t_listWhat : Int32) (t_h : Nat → Int32) (t_orbit : Nat → Int32) (t_table : Nat → Int32) (x1 : Int32) {K : Int32 → Int32 → (Nat → Int32) → (Nat → Int32) → Prop} (hx : p.tables.exec = Jvm.exec) (hb : c.code = cX11_is) (hml : c.maxLocals = 9) (hown : s.vm.findClass RX11 = some m.cls) (hts : ∀ w ∈ wsX11_is, w.before args s = true) (hK : va_K G vwCl (tyL Y) s) (hE : Ev A tF s) (hA : ∀ q, s.heap.size ≤ q → A q) (hRf : 3 ≤ R.frames) (hRl : 65 ≤ R.locals) (hret : ∀ (r : Int32) (t_thrown : Int32) (t_h : Nat → Int32) (t_orbit : Nat → Int32) (H : Heap) (locs : List Loc) (ls : Array Slot) (pc : Nat), va_P G vwCl (w_X11_is Y h_t B_t t_thrown t_n t_modulus t_rows t_strands t_letters t_listedMany t_listN t_listWhat t_h t_orbit t_table) H → va_D A (w_X11_is Y h_t B_t t_thrown t_n t_modulus t_rows t_strands t_letters t_listedMany t_listN t_listWhat t_h t_orbit t_table) → va_S A s.heap H locs → K r t_thrown t_h t_orbit → decode cX11_is pc = .ok (.ireturn, 1) → W p l e R s m args below meth c H locs 0 0 Q (F0 m pc ls [.int r])) (hP : va_P G vwCl (w_X11_is Y h_t B_t t_thrown t_n t_modulus t_rows t_strands t_letters t_listedMany t_listN t_listWhat t_h t_orbit t_table) s.heap) (hD : va_D A (w_X11_is Y h_t B_t t_thrown t_n t_modulus t_rows t_strands t_letters t_listedMany t_listN t_listWhat t_h t_orbit t_table)) (h : pX11_is t_thrown t_n t_h t_orbit t_table x1 K) : W p l e R s m args below meth c s.heap [] 0 0 Q (entryFrame m ([.ref h_t, .int x1] : List Value).toArray 9) := by
  have inX11 : ∀ w ∈ u_ws RX11 TX11 29, w ∈ wsX11_is := by decide +kernel
  have hf83 := hts (.fieldLink RX11 83 "RackBenchModel" "thrown" "I") (by decide +kernel)
  have hf9 := hts (.fieldLink RX11 9 "RackBenchModel" "n" "I") (by decide +kernel)
  have hcL163 := hts (.constantLong RX11 163 (4)) (by decide +kernel)
  have hl := lv_entry ([.ref h_t, .int x1]) (n := 9) (Nat.le_of_ble_eq_true rfl)
  rw [lg_entry_eq]
  generalize (lg_sl ([.ref h_t, .int x1]) ++ List.replicate (9 - (lg_sl ([.ref h_t, .int x1])).length) Slot.unset).toArray = ls at hl ⊢
  have hl : lv_has ls 9 [(0, .ref h_t), (1, .int x1)] := hl
  generalize hH0 : s.heap = H at hP ⊢
  have hS : va_S A s.heap H [] := by rw [← hH0]; exact va_S.rf
  clear hH0
  generalize ([] : List Loc) = locs at hS ⊢
  have J251 : ∀ (s0 : Int32) (t_thrown : Int32) (t_h : Nat → Int32) (t_orbit : Nat → Int32) (H : Heap) (locs : List Loc) (ls : Array Slot), pX11_is_251 t_n t_table K s0 t_thrown t_h t_orbit → va_P G vwCl (w_X11_is Y h_t B_t t_thrown t_n t_modulus t_rows t_strands t_letters t_listedMany t_listN t_listWhat t_h t_orbit t_table) H → va_D A (w_X11_is Y h_t B_t t_thrown t_n t_modulus t_rows t_strands t_letters t_listedMany t_listN t_listWhat t_h t_orbit t_table) → va_S A s.heap H locs → lv_has ls 9 [] → W p l e R s m args below meth c H locs 0 0 Q (F0 m 251 ls [.int s0]) := by
    intro s0 t_thrown t_h t_orbit H locs ls h hP hD hS hl
    refine lv_istore (lv' := [(7, .int s0)]) hx hb dX11_is_251 hl (by decide) rfl (fun ls hl => ?_)
    refine lv_iload hx hb dX11_is_253 (lv_at hl 0 rfl) ?_
    obtain ⟨ht, hf⟩ := h
    refine lv_if_eq (tgt := 262) hx hb dX11_is_255 (by decide) (fun c9 => ?_) (fun c9 => ?_)
    · have h := ht c9
      refine lv_iconst (v := 0) hx hb dX11_is_262 (by decide) ?_
      exact hret (0 : Int32) t_thrown t_h t_orbit H locs ls _ hP hD hS h dX11_is_263
    · have h := hf c9
      refine lv_iconst (v := 1) hx hb dX11_is_258 (by decide) ?_
      refine lv_goto (tgt := 263) hx hb dX11_is_259 (by decide) ?_
      exact hret (1 : Int32) t_thrown t_h t_orbit H locs ls _ hP hD hS h dX11_is_263
  have J210 : ∀ (x1 : Int32) (x2 : Int32) (x3 : Int32) (x4 : Int32) (x5 : Int32) (s0 : Int32) (t_thrown : Int32) (t_h : Nat → Int32) (t_orbit : Nat → Int32) (H : Heap) (locs : List Loc) (ls : Array Slot), pX11_is_210 t_n t_table K x1 x2 x3 x4 x5 s0 t_thrown t_h t_orbit → va_P G vwCl (w_X11_is Y h_t B_t t_thrown t_n t_modulus t_rows t_strands t_letters t_listedMany t_listN t_listWhat t_h t_orbit t_table) H → va_D A (w_X11_is Y h_t B_t t_thrown t_n t_modulus t_rows t_strands t_letters t_listedMany t_listN t_listWhat t_h t_orbit t_table) → va_S A s.heap H locs → lv_has ls 9 [(1, .int x1), (2, .int x2), (3, .int x3), (4, .int x4), (5, .int x5)] → W p l e R s m args below meth c H locs 0 0 Q (F0 m 210 ls [.int s0]) := by
    intro x1 x2 x3 x4 x5 s0 t_thrown t_h t_orbit H locs ls h hP hD hS hl
    refine lv_istore (lv' := [(6, .int s0), (1, .int x1), (2, .int x2), (3, .int x3), (4, .int x4), (5, .int x5)]) hx hb dX11_is_210 hl (by decide) rfl (fun ls hl => ?_)
    refine lv_iload_n hx hb dX11_is_212 rfl (lv_at hl 1 rfl) ?_
    obtain ⟨ht, hf⟩ := h
    refine lv_if_ne (tgt := 220) hx hb dX11_is_213 (by decide) (fun c9 => ?_) (fun c9 => ?_)
    · have h := ht c9
      refine lv_iload_n hx hb dX11_is_220 rfl (lv_at hl 1 rfl) ?_
      refine lv_iconst (v := 1) hx hb dX11_is_221 (by decide) ?_
      obtain ⟨ht, hf⟩ := h
      refine lv_icmp_ne (tgt := 229) hx hb dX11_is_222 (by decide) (fun c9 => ?_) (fun c9 => ?_)
      · have h := ht c9
        refine lv_iload_n hx hb dX11_is_229 rfl (lv_at hl 1 rfl) ?_
        refine lv_iconst (v := 2) hx hb dX11_is_230 (by decide) ?_
        obtain ⟨ht, hf⟩ := h
        refine lv_icmp_ne (tgt := 239) hx hb dX11_is_231 (by decide) (fun c9 => ?_) (fun c9 => ?_)
        · have h := ht c9
          refine lv_iload_n hx hb dX11_is_239 rfl (lv_at hl 1 rfl) ?_
          refine lv_iconst (v := 3) hx hb dX11_is_240 (by decide) ?_
          obtain ⟨ht, hf⟩ := h
          refine lv_icmp_ne (tgt := 249) hx hb dX11_is_241 (by decide) (fun c9 => ?_) (fun c9 => ?_)
          · have h := ht c9
            refine lv_iload hx hb dX11_is_249 (lv_at hl 5 rfl) ?_
            exact J251 x5 t_thrown t_h t_orbit H locs ls h hP hD hS (lv_sub hl [] rfl)
          · have h := hf c9
            refine lv_iload hx hb dX11_is_244 (lv_at hl 4 rfl) ?_
            refine lv_goto (tgt := 251) hx hb dX11_is_246 (by decide) ?_
            exact J251 x4 t_thrown t_h t_orbit H locs ls h hP hD hS (lv_sub hl [] rfl)
        · have h := hf c9
          refine lv_iload hx hb dX11_is_234 (lv_at hl 0 rfl) ?_
          refine lv_goto (tgt := 251) hx hb dX11_is_236 (by decide) ?_
          exact J251 s0 t_thrown t_h t_orbit H locs ls h hP hD hS (lv_sub hl [] rfl)
      · have h := hf c9
        refine lv_iload_n hx hb dX11_is_225 rfl (lv_at hl 3 rfl) ?_
        refine lv_goto (tgt := 251) hx hb dX11_is_226 (by decide) ?_
        exact J251 x3 t_thrown t_h t_orbit H locs ls h hP hD hS (lv_sub hl [] rfl)
    · have h := hf c9
      refine lv_iload_n hx hb dX11_is_216 rfl (lv_at hl 2 rfl) ?_
      refine lv_goto (tgt := 251) hx hb dX11_is_217 (by decide) ?_
      exact J251 x2 t_thrown t_h t_orbit H locs ls h hP hD hS (lv_sub hl [] rfl)
  refine lv_aload_n hx hb dX11_is_0 rfl (lv_at hl 0 rfl) ?_
  refine lv_iconst (v := 0) hx hb dX11_is_1 (by decide) ?_
  refine va_put (D := G) (ci := 10) (v := .int (0 : Int32)) (ty := .int) (C := RX11) (T := TX11) (N := 29) hx hb hts inX11 tyX11 tyX11_ok nmX11 hown hK hP hD hS 0 rfl rfl 0 (by decide) hf83 (fun _ h9 => h9) rfl (by decide +kernel) rfl rfl (Nat.le_of_ble_eq_true rfl) dX11_is_2 (fun H locs hP hD hS => ?_)
  have hP : va_P G vwCl (w_X11_is Y h_t B_t (0 : Int32) t_n t_modulus t_rows t_strands t_letters t_listedMany t_listN t_listWhat t_h t_orbit t_table) H := hP
  have hD : va_D A (w_X11_is Y h_t B_t (0 : Int32) t_n t_modulus t_rows t_strands t_letters t_listedMany t_listN t_listWhat t_h t_orbit t_table) := hD
  refine lv_iload_n hx hb dX11_is_5 rfl (lv_at hl 1 rfl) ?_
  refine lv_i2l hx hb dX11_is_6 rfl ?_
  refine lv_lconst (v := 0) hx hb dX11_is_7 (by decide) ?_
  refine lv_ldc2 (v := 4) hx hb hown hcL163 dX11_is_8 ?_
  refine mc_iS ⟨hx, hb, hml, hown, hts⟩ hK hE hA hP hD hS (c_X11_in l G Y tF H.size (Int32.toInt64 x1) (0 : Int64) (4 : Int64) h) (va_cwS 3 hts gX11_is_X11_in rfl rfl rfl (by decide +kernel) ⟨Nat.le_trans (by decide) hRf, Nat.le_trans (by decide) hRl⟩) (fun u => (w_X11_is Y h_t B_t (0 : Int32) t_n t_modulus t_rows t_strands t_letters t_listedMany t_listN t_listWhat t_h t_orbit t_table)) [] [0, 1, 2, 3] [0, 1, 2, 3] rfl rfl rfl rfl (by decide) (fun _ => rfl) rfl rfl hl.1 rfl (Nat.le_of_ble_eq_true rfl) dX11_is_11 (fun r11 u H locs h hP hD hS => ?_)
  try dsimp only at h
  have hP : va_P G vwCl (w_X11_is Y h_t B_t (0 : Int32) t_n t_modulus t_rows t_strands t_letters t_listedMany t_listN t_listWhat t_h t_orbit t_table) H := hP
  have hD : va_D A (w_X11_is Y h_t B_t (0 : Int32) t_n t_modulus t_rows t_strands t_letters t_listedMany t_listN t_listWhat t_h t_orbit t_table) := hD
  obtain ⟨ht, hf⟩ := h
  refine lv_if_eq (tgt := 24) hx hb dX11_is_14 (by decide) (fun c9 => ?_) (fun c9 => ?_)
  · have h := ht c9
    refine lv_iconst (v := -1) hx hb dX11_is_24 (by decide) ?_
    exact hret (-1 : Int32) (0 : Int32) t_h t_orbit H locs ls _ hP hD hS h dX11_is_25
  · have h := hf c9
    refine lv_aload_n hx hb dX11_is_17 rfl (lv_at hl 0 rfl) ?_
    refine mc_iV ⟨hx, hb, hml, hown, hts⟩ hK hE hA hP hD hS (c_X11_isRack l G Y tF H.size h_t B_t (0 : Int32) t_n t_modulus t_rows t_strands t_letters t_listedMany t_listN t_listWhat t_table h) (cwV 0 hts gX11_is_X11_isRack rfl rfl rfl (by decide +kernel) ⟨Nat.le_trans (by decide) hRf, Nat.le_trans (by decide) hRl⟩) (fun u => (w_X11_is Y h_t B_t (0 : Int32) t_n t_modulus t_rows t_strands t_letters t_listedMany t_listN t_listWhat t_h t_orbit t_table)) [0, 3] [1, 2] [2, 0, 1, 3] rfl rfl rfl rfl (by decide) (fun _ => rfl) rfl 0 10 rfl rfl rfl rfl hl.1 rfl (Nat.le_of_ble_eq_true rfl) dX11_is_18 (fun r18 u H locs h hP hD hS => ?_)
    try dsimp only at h
    have hP : va_P G vwCl (w_X11_is Y h_t B_t (0 : Int32) t_n t_modulus t_rows t_strands t_letters t_listedMany t_listN t_listWhat t_h t_orbit t_table) H := hP
    have hD : va_D A (w_X11_is Y h_t B_t (0 : Int32) t_n t_modulus t_rows t_strands t_letters t_listedMany t_listN t_listWhat t_h t_orbit t_table) := hD
    obtain ⟨ht, hf⟩ := h
    refine lv_if_ne (tgt := 26) hx hb dX11_is_21 (by decide) (fun c9 => ?_) (fun c9 => ?_)
    · have h := ht c9
      refine lv_iconst (v := 1) hx hb dX11_is_26 (by decide) ?_
      refine lv_istore_n (lv' := [(2, .int (1 : Int32)), (0, .ref h_t), (1, .int x1)]) hx hb dX11_is_27 rfl hl (by decide) rfl (fun ls hl => ?_)
      refine lv_iconst (v := 1) hx hb dX11_is_28 (by decide) ?_
      refine lv_istore_n (lv' := [(3, .int (1 : Int32)), (2, .int (1 : Int32)), (0, .ref h_t), (1, .int x1)]) hx hb dX11_is_29 rfl hl (by decide) rfl (fun ls hl => ?_)
      refine lv_iconst (v := 1) hx hb dX11_is_30 (by decide) ?_
      refine lv_istore (lv' := [(4, .int (1 : Int32)), (3, .int (1 : Int32)), (2, .int (1 : Int32)), (0, .ref h_t), (1, .int x1)]) hx hb dX11_is_31 hl (by decide) rfl (fun ls hl => ?_)
      refine lv_iconst (v := 1) hx hb dX11_is_33 (by decide) ?_
      refine lv_istore (lv' := [(5, .int (1 : Int32)), (4, .int (1 : Int32)), (3, .int (1 : Int32)), (2, .int (1 : Int32)), (0, .ref h_t), (1, .int x1)]) hx hb dX11_is_34 hl (by decide) rfl (fun ls hl => ?_)
      refine lv_iconst (v := 0) hx hb dX11_is_36 (by decide) ?_
      refine lv_istore (lv' := [(6, .int (0 : Int32)), (5, .int (1 : Int32)), (4, .int (1 : Int32)), (3, .int (1 : Int32)), (2, .int (1 : Int32)), (0, .ref h_t), (1, .int x1)]) hx hb dX11_is_37 hl (by decide) rfl (fun ls hl => ?_)
      obtain ⟨I39, m39, hI39, hB39⟩ := h
      have L39 : ∀ (x1 : Int32) (t_thrown : Int32) (t_h : Nat → Int32) (t_orbit : Nat → Int32) (I39 : Int32 → Int32 → Int32 → Int32 → Int32 → Prop) (m39 : Int32 → Int32 → Int32 → Int32 → Int32 → Nat), (∀ (x2 : Int32) (x3 : Int32) (x4 : Int32) (x5 : Int32) (x6 : Int32), I39 x2 x3 x4 x5 x6 → pX11_is_39 t_n t_table K x1 t_thrown t_h t_orbit x2 x3 x4 x5 x6 (fun x2' x3' x4' x5' x6' => I39 x2' x3' x4' x5' x6' ∧ m39 x2' x3' x4' x5' x6' < m39 x2 x3 x4 x5 x6)) → ∀ (n : Nat) (x2 : Int32) (x3 : Int32) (x4 : Int32) (x5 : Int32) (x6 : Int32) (H : Heap) (locs : List Loc) (ls : Array Slot), I39 x2 x3 x4 x5 x6 → m39 x2 x3 x4 x5 x6 < n → va_P G vwCl (w_X11_is Y h_t B_t t_thrown t_n t_modulus t_rows t_strands t_letters t_listedMany t_listN t_listWhat t_h t_orbit t_table) H → va_D A (w_X11_is Y h_t B_t t_thrown t_n t_modulus t_rows t_strands t_letters t_listedMany t_listN t_listWhat t_h t_orbit t_table) → va_S A s.heap H locs → lv_has ls 9 [(0, .ref h_t), (1, .int x1), (2, .int x2), (3, .int x3), (4, .int x4), (5, .int x5), (6, .int x6)] → W p l e R s m args below meth c H locs 0 0 Q (F0 m 39 ls []) := by
        intro x1 t_thrown t_h t_orbit I39 m39 hB39 n
        induction n with
        | zero => intro x2 x3 x4 x5 x6 H locs ls _ hm; exact absurd hm (Nat.not_lt_zero _)
        | succ n ih =>
          intro x2 x3 x4 x5 x6 H locs ls hI hm hP hD hS hl
          obtain ⟨R39, h, rec39⟩ : ∃ R39 : Int32 → Int32 → Int32 → Int32 → Int32 → Prop, pX11_is_39 t_n t_table K x1 t_thrown t_h t_orbit x2 x3 x4 x5 x6 R39 ∧ ∀ (x2 : Int32) (x3 : Int32) (x4 : Int32) (x5 : Int32) (x6 : Int32) (H : Heap) (locs : List Loc) (ls : Array Slot), R39 x2 x3 x4 x5 x6 → va_P G vwCl (w_X11_is Y h_t B_t t_thrown t_n t_modulus t_rows t_strands t_letters t_listedMany t_listN t_listWhat t_h t_orbit t_table) H → va_D A (w_X11_is Y h_t B_t t_thrown t_n t_modulus t_rows t_strands t_letters t_listedMany t_listN t_listWhat t_h t_orbit t_table) → va_S A s.heap H locs → lv_has ls 9 [(0, .ref h_t), (1, .int x1), (2, .int x2), (3, .int x3), (4, .int x4), (5, .int x5), (6, .int x6)] → W p l e R s m args below meth c H locs 0 0 Q (F0 m 39 ls []) := ⟨_, hB39 x2 x3 x4 x5 x6 hI, fun x2 x3 x4 x5 x6 H locs ls hh hP hD hS hl => ih x2 x3 x4 x5 x6 H locs ls hh.1 (Nat.lt_of_lt_of_le hh.2 (Nat.le_of_lt_succ hm)) hP hD hS hl⟩
          have J188 : ∀ (x2 : Int32) (x3 : Int32) (x4 : Int32) (x6 : Int32) (H : Heap) (locs : List Loc) (ls : Array Slot), pX11_is_188 t_n t_table R39 K x1 t_thrown t_h t_orbit x2 x3 x4 x6 → va_P G vwCl (w_X11_is Y h_t B_t t_thrown t_n t_modulus t_rows t_strands t_letters t_listedMany t_listN t_listWhat t_h t_orbit t_table) H → va_D A (w_X11_is Y h_t B_t t_thrown t_n t_modulus t_rows t_strands t_letters t_listedMany t_listN t_listWhat t_h t_orbit t_table) → va_S A s.heap H locs → lv_has ls 9 [(0, .ref h_t), (1, .int x1), (2, .int x2), (3, .int x3), (4, .int x4), (6, .int x6)] → W p l e R s m args below meth c H locs 0 0 Q (F0 m 188 ls []) := by
            intro x2 x3 x4 x6 H locs ls h hP hD hS hl
            refine lv_iconst (v := 0) hx hb dX11_is_188 (by decide) ?_
            refine lv_istore (lv' := [(5, .int (0 : Int32)), (0, .ref h_t), (1, .int x1), (2, .int x2), (3, .int x3), (4, .int x4), (6, .int x6)]) hx hb dX11_is_189 hl (by decide) rfl (fun ls hl => ?_)
            refine lv_iinc (v := (x6 + 1)) (lv' := [(6, .int (x6 + 1)), (5, .int (0 : Int32)), (0, .ref h_t), (1, .int x1), (2, .int x2), (3, .int x3), (4, .int x4)]) hx hb dX11_is_191 hl (k := 6) rfl rfl (by decide) rfl (fun ls hl => ?_)
            refine lv_goto (tgt := 39) hx hb dX11_is_194 (by decide) ?_
            exact rec39 x2 x3 x4 (0 : Int32) (x6 + 1) H locs ls h hP hD hS (lv_sub hl [2, 3, 4, 5, 6, 1, 0] rfl)
          have J70 : ∀ (x3 : Int32) (x4 : Int32) (x5 : Int32) (x6 : Int32) (s0 : Int32) (H : Heap) (locs : List Loc) (ls : Array Slot), pX11_is_70 t_n t_table R39 K x1 t_thrown t_h t_orbit x3 x4 x5 x6 s0 → va_P G vwCl (w_X11_is Y h_t B_t t_thrown t_n t_modulus t_rows t_strands t_letters t_listedMany t_listN t_listWhat t_h t_orbit t_table) H → va_D A (w_X11_is Y h_t B_t t_thrown t_n t_modulus t_rows t_strands t_letters t_listedMany t_listN t_listWhat t_h t_orbit t_table) → va_S A s.heap H locs → lv_has ls 9 [(0, .ref h_t), (1, .int x1), (3, .int x3), (4, .int x4), (5, .int x5), (6, .int x6)] → W p l e R s m args below meth c H locs 0 0 Q (F0 m 70 ls [.int s0]) := by
            intro x3 x4 x5 x6 s0 H locs ls h hP hD hS hl
            refine lv_istore_n (lv' := [(2, .int s0), (0, .ref h_t), (1, .int x1), (3, .int x3), (4, .int x4), (5, .int x5), (6, .int x6)]) hx hb dX11_is_70 rfl hl (by decide) rfl (fun ls hl => ?_)
            refine lv_iconst (v := 0) hx hb dX11_is_71 (by decide) ?_
            refine lv_istore (lv' := [(7, .int (0 : Int32)), (2, .int s0), (0, .ref h_t), (1, .int x1), (3, .int x3), (4, .int x4), (5, .int x5), (6, .int x6)]) hx hb dX11_is_72 hl (by decide) rfl (fun ls hl => ?_)
            refine lv_iconst (v := 0) hx hb dX11_is_74 (by decide) ?_
            refine lv_istore (lv' := [(8, .int (0 : Int32)), (7, .int (0 : Int32)), (2, .int s0), (0, .ref h_t), (1, .int x1), (3, .int x3), (4, .int x4), (5, .int x5), (6, .int x6)]) hx hb dX11_is_75 hl (by decide) rfl (fun ls hl => ?_)
            obtain ⟨I77, m77, hI77, hB77⟩ := h
            have L77 : ∀ (x2 : Int32) (x5 : Int32) (x6 : Int32) (I77 : Int32 → Int32 → Int32 → Int32 → Prop) (m77 : Int32 → Int32 → Int32 → Int32 → Nat), (∀ (x3 : Int32) (x4 : Int32) (x7 : Int32) (x8 : Int32), I77 x3 x4 x7 x8 → pX11_is_77 t_n t_table R39 K x1 t_thrown t_h t_orbit x2 x5 x6 x3 x4 x7 x8 (fun x3' x4' x7' x8' => I77 x3' x4' x7' x8' ∧ m77 x3' x4' x7' x8' < m77 x3 x4 x7 x8)) → ∀ (n : Nat) (x3 : Int32) (x4 : Int32) (x7 : Int32) (x8 : Int32) (H : Heap) (locs : List Loc) (ls : Array Slot), I77 x3 x4 x7 x8 → m77 x3 x4 x7 x8 < n → va_P G vwCl (w_X11_is Y h_t B_t t_thrown t_n t_modulus t_rows t_strands t_letters t_listedMany t_listN t_listWhat t_h t_orbit t_table) H → va_D A (w_X11_is Y h_t B_t t_thrown t_n t_modulus t_rows t_strands t_letters t_listedMany t_listN t_listWhat t_h t_orbit t_table) → va_S A s.heap H locs → lv_has ls 9 [(0, .ref h_t), (1, .int x1), (2, .int x2), (3, .int x3), (4, .int x4), (5, .int x5), (6, .int x6), (7, .int x7), (8, .int x8)] → W p l e R s m args below meth c H locs 0 0 Q (F0 m 77 ls []) := by
              intro x2 x5 x6 I77 m77 hB77 n
              induction n with
              | zero => intro x3 x4 x7 x8 H locs ls _ hm; exact absurd hm (Nat.not_lt_zero _)
              | succ n ih =>
                intro x3 x4 x7 x8 H locs ls hI hm hP hD hS hl
                obtain ⟨R77, h, rec77⟩ : ∃ R77 : Int32 → Int32 → Int32 → Int32 → Prop, pX11_is_77 t_n t_table R39 K x1 t_thrown t_h t_orbit x2 x5 x6 x3 x4 x7 x8 R77 ∧ ∀ (x3 : Int32) (x4 : Int32) (x7 : Int32) (x8 : Int32) (H : Heap) (locs : List Loc) (ls : Array Slot), R77 x3 x4 x7 x8 → va_P G vwCl (w_X11_is Y h_t B_t t_thrown t_n t_modulus t_rows t_strands t_letters t_listedMany t_listN t_listWhat t_h t_orbit t_table) H → va_D A (w_X11_is Y h_t B_t t_thrown t_n t_modulus t_rows t_strands t_letters t_listedMany t_listN t_listWhat t_h t_orbit t_table) → va_S A s.heap H locs → lv_has ls 9 [(0, .ref h_t), (1, .int x1), (2, .int x2), (3, .int x3), (4, .int x4), (5, .int x5), (6, .int x6), (7, .int x7), (8, .int x8)] → W p l e R s m args below meth c H locs 0 0 Q (F0 m 77 ls []) := ⟨_, hB77 x3 x4 x7 x8 hI, fun x3 x4 x7 x8 H locs ls hh hP hD hS hl => ih x3 x4 x7 x8 H locs ls hh.1 (Nat.lt_of_lt_of_le hh.2 (Nat.le_of_lt_succ hm)) hP hD hS hl⟩
                have J157 : ∀ (x3 : Int32) (x7 : Int32) (x8 : Int32) (H : Heap) (locs : List Loc) (ls : Array Slot), pX11_is_157 t_n t_table R39 R77 K x1 t_thrown t_h t_orbit x2 x5 x6 x3 x7 x8 → va_P G vwCl (w_X11_is Y h_t B_t t_thrown t_n t_modulus t_rows t_strands t_letters t_listedMany t_listN t_listWhat t_h t_orbit t_table) H → va_D A (w_X11_is Y h_t B_t t_thrown t_n t_modulus t_rows t_strands t_letters t_listedMany t_listN t_listWhat t_h t_orbit t_table) → va_S A s.heap H locs → lv_has ls 9 [(0, .ref h_t), (1, .int x1), (2, .int x2), (3, .int x3), (5, .int x5), (6, .int x6), (7, .int x7), (8, .int x8)] → W p l e R s m args below meth c H locs 0 0 Q (F0 m 157 ls []) := by
                  intro x3 x7 x8 H locs ls h hP hD hS hl
                  refine lv_iconst (v := 0) hx hb dX11_is_157 (by decide) ?_
                  refine lv_istore (lv' := [(4, .int (0 : Int32)), (0, .ref h_t), (1, .int x1), (2, .int x2), (3, .int x3), (5, .int x5), (6, .int x6), (7, .int x7), (8, .int x8)]) hx hb dX11_is_158 hl (by decide) rfl (fun ls hl => ?_)
                  refine lv_iinc (v := (x8 + 1)) (lv' := [(8, .int (x8 + 1)), (4, .int (0 : Int32)), (0, .ref h_t), (1, .int x1), (2, .int x2), (3, .int x3), (5, .int x5), (6, .int x6), (7, .int x7)]) hx hb dX11_is_160 hl (k := 8) rfl rfl (by decide) rfl (fun ls hl => ?_)
                  refine lv_goto (tgt := 77) hx hb dX11_is_163 (by decide) ?_
                  exact rec77 x3 (0 : Int32) x7 (x8 + 1) H locs ls h hP hD hS (lv_sub hl [2, 3, 4, 5, 1, 6, 7, 8, 0] rfl)
                have J153 : ∀ (x3 : Int32) (x7 : Int32) (x8 : Int32) (H : Heap) (locs : List Loc) (ls : Array Slot), pX11_is_153 t_n t_table R39 R77 K x1 t_thrown t_h t_orbit x2 x5 x6 x3 x7 x8 → va_P G vwCl (w_X11_is Y h_t B_t t_thrown t_n t_modulus t_rows t_strands t_letters t_listedMany t_listN t_listWhat t_h t_orbit t_table) H → va_D A (w_X11_is Y h_t B_t t_thrown t_n t_modulus t_rows t_strands t_letters t_listedMany t_listN t_listWhat t_h t_orbit t_table) → va_S A s.heap H locs → lv_has ls 9 [(0, .ref h_t), (1, .int x1), (2, .int x2), (3, .int x3), (5, .int x5), (6, .int x6), (7, .int x7), (8, .int x8)] → W p l e R s m args below meth c H locs 0 0 Q (F0 m 153 ls []) := by
                  intro x3 x7 x8 H locs ls h hP hD hS hl
                  refine lv_iconst (v := 1) hx hb dX11_is_153 (by decide) ?_
                  refine lv_goto (tgt := 158) hx hb dX11_is_154 (by decide) ?_
                  refine lv_istore (lv' := [(4, .int (1 : Int32)), (0, .ref h_t), (1, .int x1), (2, .int x2), (3, .int x3), (5, .int x5), (6, .int x6), (7, .int x7), (8, .int x8)]) hx hb dX11_is_158 hl (by decide) rfl (fun ls hl => ?_)
                  refine lv_iinc (v := (x8 + 1)) (lv' := [(8, .int (x8 + 1)), (4, .int (1 : Int32)), (0, .ref h_t), (1, .int x1), (2, .int x2), (3, .int x3), (5, .int x5), (6, .int x6), (7, .int x7)]) hx hb dX11_is_160 hl (k := 8) rfl rfl (by decide) rfl (fun ls hl => ?_)
                  refine lv_goto (tgt := 77) hx hb dX11_is_163 (by decide) ?_
                  exact rec77 x3 (1 : Int32) x7 (x8 + 1) H locs ls h hP hD hS (lv_sub hl [2, 3, 4, 5, 1, 6, 7, 8, 0] rfl)
                have J114 : ∀ (x4 : Int32) (x7 : Int32) (x8 : Int32) (s0 : Int32) (H : Heap) (locs : List Loc) (ls : Array Slot), pX11_is_114 t_n t_table R39 R77 K x1 t_thrown t_h t_orbit x2 x5 x6 x4 x7 x8 s0 → va_P G vwCl (w_X11_is Y h_t B_t t_thrown t_n t_modulus t_rows t_strands t_letters t_listedMany t_listN t_listWhat t_h t_orbit t_table) H → va_D A (w_X11_is Y h_t B_t t_thrown t_n t_modulus t_rows t_strands t_letters t_listedMany t_listN t_listWhat t_h t_orbit t_table) → va_S A s.heap H locs → lv_has ls 9 [(0, .ref h_t), (1, .int x1), (2, .int x2), (4, .int x4), (5, .int x5), (6, .int x6), (7, .int x7), (8, .int x8)] → W p l e R s m args below meth c H locs 0 0 Q (F0 m 114 ls [.int s0]) := by
                  intro x4 x7 x8 s0 H locs ls h hP hD hS hl
                  refine lv_istore_n (lv' := [(3, .int s0), (0, .ref h_t), (1, .int x1), (2, .int x2), (4, .int x4), (5, .int x5), (6, .int x6), (7, .int x7), (8, .int x8)]) hx hb dX11_is_114 rfl hl (by decide) rfl (fun ls hl => ?_)
                  refine lv_iload hx hb dX11_is_115 (lv_at hl 7 rfl) ?_
                  refine lv_iconst (v := 1) hx hb dX11_is_117 (by decide) ?_
                  refine lv_aload_n hx hb dX11_is_118 rfl (lv_at hl 1 rfl) ?_
                  refine lv_iload hx hb dX11_is_119 (lv_at hl 8 rfl) ?_
                  refine lv_iload hx hb dX11_is_121 (lv_at hl 6 rfl) ?_
                  refine mc_iV ⟨hx, hb, hml, hown, hts⟩ hK hE hA hP hD hS (c_X11_by l G Y tF H.size h_t B_t t_thrown t_n t_modulus t_rows t_strands t_letters t_listedMany t_listN t_listWhat t_table x8 x6 h) (cwV 2 hts gX11_is_X11_by rfl rfl rfl (by decide +kernel) ⟨Nat.le_trans (by decide) hRf, Nat.le_trans (by decide) hRl⟩) (fun u => (w_X11_is Y h_t B_t t_thrown t_n t_modulus t_rows t_strands t_letters t_listedMany t_listN t_listWhat t_h t_orbit t_table)) [0, 3] [1, 2] [2, 0, 1, 3] rfl rfl rfl rfl (by decide) (fun _ => rfl) rfl 0 10 rfl rfl rfl rfl hl.1 rfl (Nat.le_of_ble_eq_true rfl) dX11_is_123 (fun r123 u H locs h hP hD hS => ?_)
                  try dsimp only at h
                  have hP : va_P G vwCl (w_X11_is Y h_t B_t t_thrown t_n t_modulus t_rows t_strands t_letters t_listedMany t_listN t_listWhat t_h t_orbit t_table) H := hP
                  have hD : va_D A (w_X11_is Y h_t B_t t_thrown t_n t_modulus t_rows t_strands t_letters t_listedMany t_listN t_listWhat t_h t_orbit t_table) := hD
                  refine lv_ishl hx hb dX11_is_126 ?_
                  refine lv_ior hx hb dX11_is_127 ?_
                  refine lv_istore (lv' := [(7, .int (x7 ||| ((1 : Int32) <<< (r123 &&& 31)))), (3, .int s0), (0, .ref h_t), (1, .int x1), (2, .int x2), (4, .int x4), (5, .int x5), (6, .int x6), (8, .int x8)]) hx hb dX11_is_128 hl (by decide) rfl (fun ls hl => ?_)
                  refine lv_iload hx hb dX11_is_130 (lv_at hl 5 rfl) ?_
                  obtain ⟨ht, hf⟩ := h
                  refine lv_if_eq (tgt := 157) hx hb dX11_is_132 (by decide) (fun c9 => ?_) (fun c9 => ?_)
                  · have h := ht c9
                    exact J157 s0 (x7 ||| ((1 : Int32) <<< (r123 &&& 31))) x8 H locs ls h hP hD hS (lv_sub hl [2, 3, 4, 1, 6, 7, 0, 8] rfl)
                  · have h := hf c9
                    refine lv_iload hx hb dX11_is_135 (lv_at hl 8 rfl) ?_
                    refine lv_iload hx hb dX11_is_137 (lv_at hl 7 rfl) ?_
                    obtain ⟨ht, hf⟩ := h
                    refine lv_icmp_le (tgt := 153) hx hb dX11_is_139 (by decide) (fun c9 => ?_) (fun c9 => ?_)
                    · have h := ht c9
                      exact J153 s0 (x7 ||| ((1 : Int32) <<< (r123 &&& 31))) x8 H locs ls h hP hD hS (lv_sub hl [2, 3, 4, 1, 6, 7, 0, 8] rfl)
                    · have h := hf c9
                      refine lv_aload_n hx hb dX11_is_142 rfl (lv_at hl 2 rfl) ?_
                      refine lv_iload hx hb dX11_is_143 (lv_at hl 7 rfl) ?_
                      refine lv_iload hx hb dX11_is_145 (lv_at hl 8 rfl) ?_
                      refine mc_iV ⟨hx, hb, hml, hown, hts⟩ hK hE hA hP hD hS (c_X11_sameRows l G Y tF H.size h_t B_t t_thrown t_n t_modulus t_rows t_strands t_letters t_listedMany t_listN t_listWhat t_table x6 x8 h) (cwV 2 hts gX11_is_X11_sameRows rfl rfl rfl (by decide +kernel) ⟨Nat.le_trans (by decide) hRf, Nat.le_trans (by decide) hRl⟩) (fun u => (w_X11_is Y h_t B_t t_thrown t_n t_modulus t_rows t_strands t_letters t_listedMany t_listN t_listWhat t_h t_orbit t_table)) [0, 3] [1, 2] [2, 0, 1, 3] rfl rfl rfl rfl (by decide) (fun _ => rfl) rfl 0 10 rfl rfl rfl rfl hl.1 rfl (Nat.le_of_ble_eq_true rfl) dX11_is_147 (fun r147 u H locs h hP hD hS => ?_)
                      try dsimp only at h
                      have hP : va_P G vwCl (w_X11_is Y h_t B_t t_thrown t_n t_modulus t_rows t_strands t_letters t_listedMany t_listN t_listWhat t_h t_orbit t_table) H := hP
                      have hD : va_D A (w_X11_is Y h_t B_t t_thrown t_n t_modulus t_rows t_strands t_letters t_listedMany t_listN t_listWhat t_h t_orbit t_table) := hD
                      obtain ⟨ht, hf⟩ := h
                      refine lv_if_ne (tgt := 157) hx hb dX11_is_150 (by decide) (fun c9 => ?_) (fun c9 => ?_)
                      · have h := ht c9
                        exact J157 s0 (x7 ||| ((1 : Int32) <<< (r123 &&& 31))) x8 H locs ls h hP hD hS (lv_sub hl [2, 3, 4, 1, 6, 7, 0, 8] rfl)
                      · have h := hf c9
                        exact J153 s0 (x7 ||| ((1 : Int32) <<< (r123 &&& 31))) x8 H locs ls h hP hD hS (lv_sub hl [2, 3, 4, 1, 6, 7, 0, 8] rfl)
                have J113 : ∀ (x4 : Int32) (x7 : Int32) (x8 : Int32) (H : Heap) (locs : List Loc) (ls : Array Slot), pX11_is_113 t_n t_table R39 R77 K x1 t_thrown t_h t_orbit x2 x5 x6 x4 x7 x8 → va_P G vwCl (w_X11_is Y h_t B_t t_thrown t_n t_modulus t_rows t_strands t_letters t_listedMany t_listN t_listWhat t_h t_orbit t_table) H → va_D A (w_X11_is Y h_t B_t t_thrown t_n t_modulus t_rows t_strands t_letters t_listedMany t_listN t_listWhat t_h t_orbit t_table) → va_S A s.heap H locs → lv_has ls 9 [(0, .ref h_t), (1, .int x1), (2, .int x2), (4, .int x4), (5, .int x5), (6, .int x6), (7, .int x7), (8, .int x8)] → W p l e R s m args below meth c H locs 0 0 Q (F0 m 113 ls []) := by
                  intro x4 x7 x8 H locs ls h hP hD hS hl
                  refine lv_iconst (v := 0) hx hb dX11_is_113 (by decide) ?_
                  exact J114 x4 x7 x8 (0 : Int32) H locs ls h hP hD hS (lv_sub hl [0, 1, 2, 3, 4, 5, 6, 7] rfl)
                refine lv_iload hx hb dX11_is_77 (lv_at hl 8 rfl) ?_
                refine lv_aload_n hx hb dX11_is_79 rfl (lv_at hl 0 rfl) ?_
                refine va_get (D := G) (ci := 10) (v := .int t_n) (C := RX11) (T := TX11) (N := 29) hx hb hts inX11 hown hK hP 0 rfl rfl 1 (by decide) hf9 (fun _ h9 => h9) rfl dX11_is_80 ?_
                obtain ⟨ht, hf⟩ := h
                refine lv_icmp_ge (tgt := 166) hx hb dX11_is_83 (by decide) (fun c9 => ?_) (fun c9 => ?_)
                · have h := ht c9
                  refine lv_iload hx hb dX11_is_166 (lv_at hl 5 rfl) ?_
                  obtain ⟨ht, hf⟩ := h
                  refine lv_if_eq (tgt := 188) hx hb dX11_is_168 (by decide) (fun c9 => ?_) (fun c9 => ?_)
                  · have h := ht c9
                    exact J188 x2 x3 x4 x6 H locs ls h hP hD hS (lv_sub hl [0, 1, 2, 3, 4, 6] rfl)
                  · have h := hf c9
                    refine lv_iload hx hb dX11_is_171 (lv_at hl 7 rfl) ?_
                    refine lv_iconst (v := 1) hx hb dX11_is_173 (by decide) ?_
                    refine lv_aload_n hx hb dX11_is_174 rfl (lv_at hl 0 rfl) ?_
                    refine va_get (D := G) (ci := 10) (v := .int t_n) (C := RX11) (T := TX11) (N := 29) hx hb hts inX11 hown hK hP 0 rfl rfl 1 (by decide) hf9 (fun _ h9 => h9) rfl dX11_is_175 ?_
                    refine lv_ishl hx hb dX11_is_178 ?_
                    refine lv_iconst (v := 1) hx hb dX11_is_179 (by decide) ?_
                    refine lv_isub hx hb dX11_is_180 ?_
                    obtain ⟨ht, hf⟩ := h
                    refine lv_icmp_ne (tgt := 188) hx hb dX11_is_181 (by decide) (fun c9 => ?_) (fun c9 => ?_)
                    · have h := ht c9
                      exact J188 x2 x3 x4 x6 H locs ls h hP hD hS (lv_sub hl [0, 1, 2, 3, 4, 6] rfl)
                    · have h := hf c9
                      refine lv_iconst (v := 1) hx hb dX11_is_184 (by decide) ?_
                      refine lv_goto (tgt := 189) hx hb dX11_is_185 (by decide) ?_
                      refine lv_istore (lv' := [(5, .int (1 : Int32)), (0, .ref h_t), (1, .int x1), (2, .int x2), (3, .int x3), (4, .int x4), (6, .int x6), (7, .int x7), (8, .int x8)]) hx hb dX11_is_189 hl (by decide) rfl (fun ls hl => ?_)
                      refine lv_iinc (v := (x6 + 1)) (lv' := [(6, .int (x6 + 1)), (5, .int (1 : Int32)), (0, .ref h_t), (1, .int x1), (2, .int x2), (3, .int x3), (4, .int x4), (7, .int x7), (8, .int x8)]) hx hb dX11_is_191 hl (k := 6) rfl rfl (by decide) rfl (fun ls hl => ?_)
                      refine lv_goto (tgt := 39) hx hb dX11_is_194 (by decide) ?_
                      exact rec39 x2 x3 x4 (1 : Int32) (x6 + 1) H locs ls h hP hD hS (lv_sub hl [2, 3, 4, 5, 6, 1, 0] rfl)
                · have h := hf c9
                  refine lv_iload_n hx hb dX11_is_86 rfl (lv_at hl 3 rfl) ?_
                  obtain ⟨ht, hf⟩ := h
                  refine lv_if_eq (tgt := 113) hx hb dX11_is_87 (by decide) (fun c9 => ?_) (fun c9 => ?_)
                  · have h := ht c9
                    exact J113 x4 x7 x8 H locs ls h hP hD hS (lv_sub hl [0, 1, 2, 4, 5, 6, 7, 8] rfl)
                  · have h := hf c9
                    refine lv_aload_n hx hb dX11_is_90 rfl (lv_at hl 0 rfl) ?_
                    refine lv_iload hx hb dX11_is_91 (lv_at hl 6 rfl) ?_
                    refine lv_aload_n hx hb dX11_is_93 rfl (lv_at hl 0 rfl) ?_
                    refine lv_iload hx hb dX11_is_94 (lv_at hl 6 rfl) ?_
                    refine lv_iload hx hb dX11_is_96 (lv_at hl 8 rfl) ?_
                    refine mc_iV ⟨hx, hb, hml, hown, hts⟩ hK hE hA hP hD hS (c_X11_by l G Y tF H.size h_t B_t t_thrown t_n t_modulus t_rows t_strands t_letters t_listedMany t_listN t_listWhat t_table x6 x8 h) (cwV 2 hts gX11_is_X11_by rfl rfl rfl (by decide +kernel) ⟨Nat.le_trans (by decide) hRf, Nat.le_trans (by decide) hRl⟩) (fun u => (w_X11_is Y h_t B_t t_thrown t_n t_modulus t_rows t_strands t_letters t_listedMany t_listN t_listWhat t_h t_orbit t_table)) [0, 3] [1, 2] [2, 0, 1, 3] rfl rfl rfl rfl (by decide) (fun _ => rfl) rfl 0 10 rfl rfl rfl rfl hl.1 rfl (Nat.le_of_ble_eq_true rfl) dX11_is_98 (fun r98 u H locs h hP hD hS => ?_)
                    try dsimp only at h
                    have hP : va_P G vwCl (w_X11_is Y h_t B_t t_thrown t_n t_modulus t_rows t_strands t_letters t_listedMany t_listN t_listWhat t_h t_orbit t_table) H := hP
                    have hD : va_D A (w_X11_is Y h_t B_t t_thrown t_n t_modulus t_rows t_strands t_letters t_listedMany t_listN t_listWhat t_h t_orbit t_table) := hD
                    refine mc_iV ⟨hx, hb, hml, hown, hts⟩ hK hE hA hP hD hS (c_X11_by l G Y tF H.size h_t B_t t_thrown t_n t_modulus t_rows t_strands t_letters t_listedMany t_listN t_listWhat t_table x6 r98 h) (cwV 2 hts gX11_is_X11_by rfl rfl rfl (by decide +kernel) ⟨Nat.le_trans (by decide) hRf, Nat.le_trans (by decide) hRl⟩) (fun u => (w_X11_is Y h_t B_t t_thrown t_n t_modulus t_rows t_strands t_letters t_listedMany t_listN t_listWhat t_h t_orbit t_table)) [0, 3] [1, 2] [2, 0, 1, 3] rfl rfl rfl rfl (by decide) (fun _ => rfl) rfl 0 10 rfl rfl rfl rfl hl.1 rfl (Nat.le_of_ble_eq_true rfl) dX11_is_101 (fun r101 u H locs h hP hD hS => ?_)
                    try dsimp only at h
                    have hP : va_P G vwCl (w_X11_is Y h_t B_t t_thrown t_n t_modulus t_rows t_strands t_letters t_listedMany t_listN t_listWhat t_h t_orbit t_table) H := hP
                    have hD : va_D A (w_X11_is Y h_t B_t t_thrown t_n t_modulus t_rows t_strands t_letters t_listedMany t_listN t_listWhat t_h t_orbit t_table) := hD
                    refine lv_iload hx hb dX11_is_104 (lv_at hl 8 rfl) ?_
                    obtain ⟨ht, hf⟩ := h
                    refine lv_icmp_ne (tgt := 113) hx hb dX11_is_106 (by decide) (fun c9 => ?_) (fun c9 => ?_)
                    · have h := ht c9
                      exact J113 x4 x7 x8 H locs ls h hP hD hS (lv_sub hl [0, 1, 2, 4, 5, 6, 7, 8] rfl)
                    · have h := hf c9
                      refine lv_iconst (v := 1) hx hb dX11_is_109 (by decide) ?_
                      refine lv_goto (tgt := 114) hx hb dX11_is_110 (by decide) ?_
                      exact J114 x4 x7 x8 (1 : Int32) H locs ls h hP hD hS (lv_sub hl [0, 1, 2, 4, 5, 6, 7, 8] rfl)
            exact L77 s0 x5 x6 I77 m77 hB77 _ x3 x4 (0 : Int32) (0 : Int32) H locs ls hI77 (Nat.lt_succ_self _) hP hD hS (lv_sub hl [3, 4, 2, 5, 6, 7, 8, 1, 0] rfl)
          have J69 : ∀ (x3 : Int32) (x4 : Int32) (x5 : Int32) (x6 : Int32) (H : Heap) (locs : List Loc) (ls : Array Slot), pX11_is_69 t_n t_table R39 K x1 t_thrown t_h t_orbit x3 x4 x5 x6 → va_P G vwCl (w_X11_is Y h_t B_t t_thrown t_n t_modulus t_rows t_strands t_letters t_listedMany t_listN t_listWhat t_h t_orbit t_table) H → va_D A (w_X11_is Y h_t B_t t_thrown t_n t_modulus t_rows t_strands t_letters t_listedMany t_listN t_listWhat t_h t_orbit t_table) → va_S A s.heap H locs → lv_has ls 9 [(0, .ref h_t), (1, .int x1), (3, .int x3), (4, .int x4), (5, .int x5), (6, .int x6)] → W p l e R s m args below meth c H locs 0 0 Q (F0 m 69 ls []) := by
            intro x3 x4 x5 x6 H locs ls h hP hD hS hl
            refine lv_iconst (v := 0) hx hb dX11_is_69 (by decide) ?_
            exact J70 x3 x4 x5 x6 (0 : Int32) H locs ls h hP hD hS (lv_sub hl [0, 1, 2, 3, 4, 5] rfl)
          refine lv_iload hx hb dX11_is_39 (lv_at hl 6 rfl) ?_
          refine lv_aload_n hx hb dX11_is_41 rfl (lv_at hl 0 rfl) ?_
          refine va_get (D := G) (ci := 10) (v := .int t_n) (C := RX11) (T := TX11) (N := 29) hx hb hts inX11 hown hK hP 0 rfl rfl 1 (by decide) hf9 (fun _ h9 => h9) rfl dX11_is_42 ?_
          obtain ⟨ht, hf⟩ := h
          refine lv_icmp_ge (tgt := 197) hx hb dX11_is_45 (by decide) (fun c9 => ?_) (fun c9 => ?_)
          · have h := ht c9
            refine lv_aload_n hx hb dX11_is_197 rfl (lv_at hl 0 rfl) ?_
            refine mc_iV ⟨hx, hb, hml, hown, hts⟩ hK hE hA hP hD hS (c_X11_findsOrbits l G Y tF H.size h_t B_t t_thrown t_n t_modulus t_rows t_strands t_letters t_listedMany t_listN t_listWhat t_h t_orbit t_table h) (cwV 0 hts gX11_is_X11_findsOrbits rfl rfl rfl (by decide +kernel) ⟨Nat.le_trans (by decide) hRf, Nat.le_trans (by decide) hRl⟩) (fun u => (w_X11_is Y h_t B_t t_thrown t_n t_modulus t_rows t_strands t_letters t_listedMany t_listN t_listWhat u.1 u.2 t_table)) [0, 1, 2, 3] [] [0, 1, 2, 3] rfl rfl rfl rfl (by decide) (fun _ => rfl) rfl 0 10 rfl rfl rfl rfl hl.1 rfl (Nat.le_of_ble_eq_true rfl) dX11_is_198 (fun r198 u H locs h hP hD hS => ?_)
            obtain ⟨t_h_198, t_orbit_198⟩ := u
            try dsimp only at h
            have hP : va_P G vwCl (w_X11_is Y h_t B_t t_thrown t_n t_modulus t_rows t_strands t_letters t_listedMany t_listN t_listWhat t_h_198 t_orbit_198 t_table) H := hP
            have hD : va_D A (w_X11_is Y h_t B_t t_thrown t_n t_modulus t_rows t_strands t_letters t_listedMany t_listN t_listWhat t_h_198 t_orbit_198 t_table) := hD
            refine lv_iconst (v := 1) hx hb dX11_is_201 (by decide) ?_
            obtain ⟨ht, hf⟩ := h
            refine lv_icmp_ne (tgt := 209) hx hb dX11_is_202 (by decide) (fun c9 => ?_) (fun c9 => ?_)
            · have h := ht c9
              refine lv_iconst (v := 0) hx hb dX11_is_209 (by decide) ?_
              exact J210 x1 x2 x3 x4 x5 (0 : Int32) t_thrown t_h_198 t_orbit_198 H locs ls h hP hD hS (lv_sub hl [1, 2, 3, 4, 5] rfl)
            · have h := hf c9
              refine lv_iconst (v := 1) hx hb dX11_is_205 (by decide) ?_
              refine lv_goto (tgt := 210) hx hb dX11_is_206 (by decide) ?_
              exact J210 x1 x2 x3 x4 x5 (1 : Int32) t_thrown t_h_198 t_orbit_198 H locs ls h hP hD hS (lv_sub hl [1, 2, 3, 4, 5] rfl)
          · have h := hf c9
            refine lv_iload_n hx hb dX11_is_48 rfl (lv_at hl 2 rfl) ?_
            obtain ⟨ht, hf⟩ := h
            refine lv_if_eq (tgt := 69) hx hb dX11_is_49 (by decide) (fun c9 => ?_) (fun c9 => ?_)
            · have h := ht c9
              exact J69 x3 x4 x5 x6 H locs ls h hP hD hS (lv_sub hl [0, 1, 3, 4, 5, 6] rfl)
            · have h := hf c9
              refine lv_aload_n hx hb dX11_is_52 rfl (lv_at hl 0 rfl) ?_
              refine lv_iload hx hb dX11_is_53 (lv_at hl 6 rfl) ?_
              refine lv_iload hx hb dX11_is_55 (lv_at hl 6 rfl) ?_
              refine mc_iV ⟨hx, hb, hml, hown, hts⟩ hK hE hA hP hD hS (c_X11_by l G Y tF H.size h_t B_t t_thrown t_n t_modulus t_rows t_strands t_letters t_listedMany t_listN t_listWhat t_table x6 x6 h) (cwV 2 hts gX11_is_X11_by rfl rfl rfl (by decide +kernel) ⟨Nat.le_trans (by decide) hRf, Nat.le_trans (by decide) hRl⟩) (fun u => (w_X11_is Y h_t B_t t_thrown t_n t_modulus t_rows t_strands t_letters t_listedMany t_listN t_listWhat t_h t_orbit t_table)) [0, 3] [1, 2] [2, 0, 1, 3] rfl rfl rfl rfl (by decide) (fun _ => rfl) rfl 0 10 rfl rfl rfl rfl hl.1 rfl (Nat.le_of_ble_eq_true rfl) dX11_is_57 (fun r57 u H locs h hP hD hS => ?_)
              try dsimp only at h
              have hP : va_P G vwCl (w_X11_is Y h_t B_t t_thrown t_n t_modulus t_rows t_strands t_letters t_listedMany t_listN t_listWhat t_h t_orbit t_table) H := hP
              have hD : va_D A (w_X11_is Y h_t B_t t_thrown t_n t_modulus t_rows t_strands t_letters t_listedMany t_listN t_listWhat t_h t_orbit t_table) := hD
              refine lv_iload hx hb dX11_is_60 (lv_at hl 6 rfl) ?_
              obtain ⟨ht, hf⟩ := h
              refine lv_icmp_ne (tgt := 69) hx hb dX11_is_62 (by decide) (fun c9 => ?_) (fun c9 => ?_)
              · have h := ht c9
                exact J69 x3 x4 x5 x6 H locs ls h hP hD hS (lv_sub hl [0, 1, 3, 4, 5, 6] rfl)
              · have h := hf c9
                refine lv_iconst (v := 1) hx hb dX11_is_65 (by decide) ?_
                refine lv_goto (tgt := 70) hx hb dX11_is_66 (by decide) ?_
                exact J70 x3 x4 x5 x6 (1 : Int32) H locs ls h hP hD hS (lv_sub hl [0, 1, 3, 4, 5, 6] rfl)
      exact L39 x1 (0 : Int32) t_h t_orbit I39 m39 hB39 _ (1 : Int32) (1 : Int32) (1 : Int32) (1 : Int32) (0 : Int32) H locs ls hI39 (Nat.lt_succ_self _) hP hD hS (lv_sub hl [5, 6, 4, 3, 2, 1, 0] rfl)
    · have h := hf c9
      refine lv_iconst (v := -1) hx hb dX11_is_24 (by decide) ?_
      exact hret (-1 : Int32) (0 : Int32) t_h t_orbit H locs ls _ hP hD hS h dX11_is_25

set_option maxHeartbeats 20000000 in
set_option maxRecDepth 100000 in
theorem c_X11_is (l : Launch) (G : va_G) (Y : Nat → ClassId) (tF sz : Nat) (h_t : Nat) (B_t : Nat → Nat) (t_thrown : Int32) (t_n : Int32) (t_modulus : Int32) (t_rows : Int32) (t_strands : Int32) (t_letters : Int32) (t_listedMany : Int32) (t_listN : Int32) (t_listWhat : Int32) (t_h : Nat → Int32) (t_orbit : Nat → Int32) (t_table : Nat → Int32) (x1 : Int32) {K : Int32 → Int32 → (Nat → Int32) → (Nat → Int32) → Prop} (h : pX11_is t_thrown t_n t_h t_orbit t_table x1 K) : Met l yX11_is wsX11_is ({ frames := 3, cells := 0, slots := 0, locals := 65 }) (PcM G Y tF sz (w_X11_is Y h_t B_t t_thrown t_n t_modulus t_rows t_strands t_letters t_listedMany t_listN t_listWhat t_h t_orbit t_table) [.ref h_t, .int x1]) (va_Qi (fun (r : Int32) (u : Int32 × (Nat → Int32) × (Nat → Int32)) => K r u.1 u.2.1 u.2.2) (fun u t => BM G Y (va_A (w_X11_is Y h_t B_t t_thrown t_n t_modulus t_rows t_strands t_letters t_listedMany t_listN t_listWhat t_h t_orbit t_table) sz) (w_X11_is Y h_t B_t u.1 t_n t_modulus t_rows t_strands t_letters t_listedMany t_listN t_listWhat u.2.1 u.2.2 t_table) t) (va_A (w_X11_is Y h_t B_t t_thrown t_n t_modulus t_rows t_strands t_letters t_listedMany t_listN t_listWhat t_h t_orbit t_table) sz)) 0 0 (va_A (w_X11_is Y h_t B_t t_thrown t_n t_modulus t_rows t_strands t_letters t_listedMany t_listN t_listWhat t_h t_orbit t_table) sz) := by
  refine Met.ofW (cc := cX11_is) (maxL := 9) (ret := (some .int)) (by decide +kernel) rfl ?_
  intro p e s m args below meth c s₁ B hml hv
  obtain ⟨rfl, hsz, hP, hK, hD0, hE⟩ := hv
  have hts := atoms_spec (ws := wsX11_is) B.pre
  have hown : s.vm.findClass RX11 = some m.cls := findClass_of_methodNamed B.named
  have hlocks := B.notSynchronized
  subst hsz
  have hD := hD0.self (sz := s.heap.size)
  exact wk_X11_is h_t B_t t_thrown t_n t_modulus t_rows t_strands t_letters t_listedMany t_listN t_listWhat t_h t_orbit t_table x1 B.exec B.bytes hml hown hts hK hE (fun q h => Or.inr h) (Nat.le_refl _) (Nat.le_refl _) (fun r t_thrown t_h t_orbit H locs ls pc hP hD hS hk hd => W.iret (v := r) B.exec B.bytes B.returns (fun t ht hW => ⟨⟨r, (t_thrown, t_h, t_orbit), rfl, hk, by rw [ht]; exact hP, va_K.moved hW.alike hK, hD⟩, hS.F ht⟩) hS.2.2 hd) hP hD h

abbrev w_X11_orbits (Y : Nat → ClassId) (h_t : Nat) (B_t : Nat → Nat) (t_thrown : Int32) (t_n : Int32) (t_modulus : Int32) (t_rows : Int32) (t_strands : Int32) (t_letters : Int32) (t_listedMany : Int32) (t_listN : Int32) (t_listWhat : Int32) (t_h : Nat → Int32) (t_orbit : Nat → Int32) (t_row : Nat → Int32) (t_table : Nat → Int32) : va_W := [(h_t, .inr (10, [.int t_thrown, .int t_n, .ref (B_t 2), .int t_modulus, .ref (B_t 4), .ref (B_t 5), .ref (B_t 6), .ref (B_t 7), .ref (B_t 8), .ref (B_t 9), .ref (B_t 10), .int t_rows, .ref (B_t 12), .ref (B_t 13), .ref (B_t 14), .ref (B_t 15), .ref (B_t 16), .ref (B_t 17), .ref (B_t 18), .ref (B_t 19), .int t_strands, .int t_letters, .ref (B_t 22), .ref (B_t 23), .ref (B_t 24), .ref (B_t 25), .int t_listedMany, .int t_listN, .int t_listWhat])), ((B_t 7), .inl (Y 0, 8, .inl t_h)), ((B_t 13), .inl (Y 0, 8, .inl t_orbit)), ((B_t 12), .inl (Y 0, 8, .inl t_row)), ((B_t 2), .inl (Y 0, 64, .inl t_table))]

set_option maxHeartbeats 20000000 in
set_option maxRecDepth 100000 in
theorem wk_X11_orbits {p : Program} {l : Launch} {e : Env} {R : Room} {s : State} {m : MethodId} {args : Array Value} {below : List Frame} {meth : Method} {c : Code} {Q : State → Prop} {G : va_G} {Y : Nat → ClassId} {tF : Nat} {A : Nat → Prop} (h_t : Nat) (B_t : Nat → Nat) (t_thrown : Int32) (t_n : Int32) (t_modulus : Int32) (t_rows : Int32) (t_strands : Int32) (t_letters : Int32) (t_listedMany : Int32) (t_listN : Int32) (t_listWhat : Int32) (t_h : Nat → Int32) (t_orbit : Nat → Int32) (t_row : Nat → Int32) (t_table : Nat → Int32) {K : Int32 → Int32 → Int32 → (Nat → Int32) → (Nat → Int32) → (Nat → Int32) → Prop} (hx : p.tables.exec = Jvm.exec) (hb : c.code = cX11_orbits) (hml : c.maxLocals = 3) (hown : s.vm.findClass RX11 = some m.cls) (hts : ∀ w ∈ wsX11_orbits, w.before args s = true) (hK : va_K G vwCl (tyL Y) s) (hE : Ev A tF s) (hA : ∀ q, s.heap.size ≤ q → A q) (hRf : 3 ≤ R.frames) (hRl : 65 ≤ R.locals) (hret : ∀ (r : Int32) (t_thrown : Int32) (t_rows : Int32) (t_h : Nat → Int32) (t_orbit : Nat → Int32) (t_row : Nat → Int32) (H : Heap) (locs : List Loc) (ls : Array Slot) (pc : Nat), va_P G vwCl (w_X11_orbits Y h_t B_t t_thrown t_n t_modulus t_rows t_strands t_letters t_listedMany t_listN t_listWhat t_h t_orbit t_row t_table) H → va_D A (w_X11_orbits Y h_t B_t t_thrown t_n t_modulus t_rows t_strands t_letters t_listedMany t_listN t_listWhat t_h t_orbit t_row t_table) → va_S A s.heap H locs → K r t_thrown t_rows t_h t_orbit t_row → decode cX11_orbits pc = .ok (.ireturn, 1) → W p l e R s m args below meth c H locs 0 0 Q (F0 m pc ls [.int r])) (hP : va_P G vwCl (w_X11_orbits Y h_t B_t t_thrown t_n t_modulus t_rows t_strands t_letters t_listedMany t_listN t_listWhat t_h t_orbit t_row t_table) s.heap) (hD : va_D A (w_X11_orbits Y h_t B_t t_thrown t_n t_modulus t_rows t_strands t_letters t_listedMany t_listN t_listWhat t_h t_orbit t_row t_table)) (h : pX11_orbits t_thrown t_n t_rows t_h t_orbit t_row t_table K) : W p l e R s m args below meth c s.heap [] 0 0 Q (entryFrame m ([.ref h_t] : List Value).toArray 3) := by
  have inX11 : ∀ w ∈ u_ws RX11 TX11 29, w ∈ wsX11_orbits := by decide +kernel
  have hf144 := hts (.fieldLink RX11 144 "RackBenchModel" "rows" "I") (by decide +kernel)
  have hf41 := hts (.fieldLink RX11 41 "RackBenchModel" "row" "[I") (by decide +kernel)
  have hf44 := hts (.fieldLink RX11 44 "RackBenchModel" "orbit" "[I") (by decide +kernel)
  have hf83 := hts (.fieldLink RX11 83 "RackBenchModel" "thrown" "I") (by decide +kernel)
  have hf9 := hts (.fieldLink RX11 9 "RackBenchModel" "n" "I") (by decide +kernel)
  have hl := lv_entry ([.ref h_t]) (n := 3) (Nat.le_of_ble_eq_true rfl)
  rw [lg_entry_eq]
  generalize (lg_sl ([.ref h_t]) ++ List.replicate (3 - (lg_sl ([.ref h_t])).length) Slot.unset).toArray = ls at hl ⊢
  have hl : lv_has ls 3 [(0, .ref h_t)] := hl
  generalize hH0 : s.heap = H at hP ⊢
  have hS : va_S A s.heap H [] := by rw [← hH0]; exact va_S.rf
  clear hH0
  generalize ([] : List Loc) = locs at hS ⊢
  refine lv_aload_n hx hb dX11_orbits_0 rfl (lv_at hl 0 rfl) ?_
  refine lv_iconst (v := 0) hx hb dX11_orbits_1 (by decide) ?_
  refine va_put (D := G) (ci := 10) (v := .int (0 : Int32)) (ty := .int) (C := RX11) (T := TX11) (N := 29) hx hb hts inX11 tyX11 tyX11_ok nmX11 hown hK hP hD hS 0 rfl rfl 0 (by decide) hf83 (fun _ h9 => h9) rfl (by decide +kernel) rfl rfl (Nat.le_of_ble_eq_true rfl) dX11_orbits_2 (fun H locs hP hD hS => ?_)
  have hP : va_P G vwCl (w_X11_orbits Y h_t B_t (0 : Int32) t_n t_modulus t_rows t_strands t_letters t_listedMany t_listN t_listWhat t_h t_orbit t_row t_table) H := hP
  have hD : va_D A (w_X11_orbits Y h_t B_t (0 : Int32) t_n t_modulus t_rows t_strands t_letters t_listedMany t_listN t_listWhat t_h t_orbit t_row t_table) := hD
  refine lv_aload_n hx hb dX11_orbits_5 rfl (lv_at hl 0 rfl) ?_
  refine mc_iV ⟨hx, hb, hml, hown, hts⟩ hK hE hA hP hD hS (c_X11_isRack l G Y tF H.size h_t B_t (0 : Int32) t_n t_modulus t_rows t_strands t_letters t_listedMany t_listN t_listWhat t_table h) (cwV 0 hts gX11_orbits_X11_isRack rfl rfl rfl (by decide +kernel) ⟨Nat.le_trans (by decide) hRf, Nat.le_trans (by decide) hRl⟩) (fun u => (w_X11_orbits Y h_t B_t (0 : Int32) t_n t_modulus t_rows t_strands t_letters t_listedMany t_listN t_listWhat t_h t_orbit t_row t_table)) [0, 4] [1, 2, 3] [3, 0, 1, 2, 4] rfl rfl rfl rfl (by decide) (fun _ => rfl) rfl 0 10 rfl rfl rfl rfl hl.1 rfl (Nat.le_of_ble_eq_true rfl) dX11_orbits_6 (fun r6 u H locs h hP hD hS => ?_)
  try dsimp only at h
  have hP : va_P G vwCl (w_X11_orbits Y h_t B_t (0 : Int32) t_n t_modulus t_rows t_strands t_letters t_listedMany t_listN t_listWhat t_h t_orbit t_row t_table) H := hP
  have hD : va_D A (w_X11_orbits Y h_t B_t (0 : Int32) t_n t_modulus t_rows t_strands t_letters t_listedMany t_listN t_listWhat t_h t_orbit t_row t_table) := hD
  obtain ⟨ht, hf⟩ := h
  refine lv_if_ne (tgt := 14) hx hb dX11_orbits_9 (by decide) (fun c9 => ?_) (fun c9 => ?_)
  · have h := ht c9
    refine lv_aload_n hx hb dX11_orbits_14 rfl (lv_at hl 0 rfl) ?_
    refine mc_iV ⟨hx, hb, hml, hown, hts⟩ hK hE hA hP hD hS (c_X11_findsOrbits l G Y tF H.size h_t B_t (0 : Int32) t_n t_modulus t_rows t_strands t_letters t_listedMany t_listN t_listWhat t_h t_orbit t_table h) (cwV 0 hts gX11_orbits_X11_findsOrbits rfl rfl rfl (by decide +kernel) ⟨Nat.le_trans (by decide) hRf, Nat.le_trans (by decide) hRl⟩) (fun u => (w_X11_orbits Y h_t B_t (0 : Int32) t_n t_modulus t_rows t_strands t_letters t_listedMany t_listN t_listWhat u.1 u.2 t_row t_table)) [0, 1, 2, 4] [3] [1, 2, 3, 0, 4] rfl rfl rfl rfl (by decide) (fun _ => rfl) rfl 0 10 rfl rfl rfl rfl hl.1 rfl (Nat.le_of_ble_eq_true rfl) dX11_orbits_15 (fun r15 u H locs h hP hD hS => ?_)
    obtain ⟨t_h_15, t_orbit_15⟩ := u
    try dsimp only at h
    have hP : va_P G vwCl (w_X11_orbits Y h_t B_t (0 : Int32) t_n t_modulus t_rows t_strands t_letters t_listedMany t_listN t_listWhat t_h_15 t_orbit_15 t_row t_table) H := hP
    have hD : va_D A (w_X11_orbits Y h_t B_t (0 : Int32) t_n t_modulus t_rows t_strands t_letters t_listedMany t_listN t_listWhat t_h_15 t_orbit_15 t_row t_table) := hD
    refine lv_istore_n (lv' := [(1, .int r15), (0, .ref h_t)]) hx hb dX11_orbits_18 rfl hl (by decide) rfl (fun ls hl => ?_)
    refine lv_aload_n hx hb dX11_orbits_19 rfl (lv_at hl 1 rfl) ?_
    refine lv_aload_n hx hb dX11_orbits_20 rfl (lv_at hl 1 rfl) ?_
    refine va_get (D := G) (ci := 10) (v := .int t_n) (C := RX11) (T := TX11) (N := 29) hx hb hts inX11 hown hK hP 0 rfl rfl 1 (by decide) hf9 (fun _ h9 => h9) rfl dX11_orbits_21 ?_
    refine va_put (D := G) (ci := 10) (v := .int t_n) (ty := .int) (C := RX11) (T := TX11) (N := 29) hx hb hts inX11 tyX11 tyX11_ok nmX11 hown hK hP hD hS 0 rfl rfl 11 (by decide) hf144 (fun _ h9 => h9) rfl (by decide +kernel) rfl rfl (Nat.le_of_ble_eq_true rfl) dX11_orbits_24 (fun H locs hP hD hS => ?_)
    have hP : va_P G vwCl (w_X11_orbits Y h_t B_t (0 : Int32) t_n t_modulus t_n t_strands t_letters t_listedMany t_listN t_listWhat t_h_15 t_orbit_15 t_row t_table) H := hP
    have hD : va_D A (w_X11_orbits Y h_t B_t (0 : Int32) t_n t_modulus t_n t_strands t_letters t_listedMany t_listN t_listWhat t_h_15 t_orbit_15 t_row t_table) := hD
    refine lv_iconst (v := 0) hx hb dX11_orbits_27 (by decide) ?_
    refine lv_istore_n (lv' := [(2, .int (0 : Int32)), (1, .int r15), (0, .ref h_t)]) hx hb dX11_orbits_28 rfl hl (by decide) rfl (fun ls hl => ?_)
    obtain ⟨I29, m29, hI29, hB29⟩ := h
    have L29 : ∀ (x1 : Int32) (t_thrown : Int32) (t_rows : Int32) (t_h : Nat → Int32) (t_orbit : Nat → Int32) (I29 : Int32 → (Nat → Int32) → Prop) (m29 : Int32 → (Nat → Int32) → Nat), (∀ (x2 : Int32) (t_row : Nat → Int32), I29 x2 t_row → pX11_orbits_29 t_n t_table K x1 t_thrown t_rows t_h t_orbit x2 t_row (fun x2' t_row' => I29 x2' t_row' ∧ m29 x2' t_row' < m29 x2 t_row)) → ∀ (n : Nat) (x2 : Int32) (t_row : Nat → Int32) (H : Heap) (locs : List Loc) (ls : Array Slot), I29 x2 t_row → m29 x2 t_row < n → va_P G vwCl (w_X11_orbits Y h_t B_t t_thrown t_n t_modulus t_rows t_strands t_letters t_listedMany t_listN t_listWhat t_h t_orbit t_row t_table) H → va_D A (w_X11_orbits Y h_t B_t t_thrown t_n t_modulus t_rows t_strands t_letters t_listedMany t_listN t_listWhat t_h t_orbit t_row t_table) → va_S A s.heap H locs → lv_has ls 3 [(0, .ref h_t), (1, .int x1), (2, .int x2)] → W p l e R s m args below meth c H locs 0 0 Q (F0 m 29 ls []) := by
      intro x1 t_thrown t_rows t_h t_orbit I29 m29 hB29 n
      induction n with
      | zero => intro x2 t_row H locs ls _ hm; exact absurd hm (Nat.not_lt_zero _)
      | succ n ih =>
        intro x2 t_row H locs ls hI hm hP hD hS hl
        obtain ⟨R29, h, rec29⟩ : ∃ R29 : Int32 → (Nat → Int32) → Prop, pX11_orbits_29 t_n t_table K x1 t_thrown t_rows t_h t_orbit x2 t_row R29 ∧ ∀ (x2 : Int32) (t_row : Nat → Int32) (H : Heap) (locs : List Loc) (ls : Array Slot), R29 x2 t_row → va_P G vwCl (w_X11_orbits Y h_t B_t t_thrown t_n t_modulus t_rows t_strands t_letters t_listedMany t_listN t_listWhat t_h t_orbit t_row t_table) H → va_D A (w_X11_orbits Y h_t B_t t_thrown t_n t_modulus t_rows t_strands t_letters t_listedMany t_listN t_listWhat t_h t_orbit t_row t_table) → va_S A s.heap H locs → lv_has ls 3 [(0, .ref h_t), (1, .int x1), (2, .int x2)] → W p l e R s m args below meth c H locs 0 0 Q (F0 m 29 ls []) := ⟨_, hB29 x2 t_row hI, fun x2 t_row H locs ls hh hP hD hS hl => ih x2 t_row H locs ls hh.1 (Nat.lt_of_lt_of_le hh.2 (Nat.le_of_lt_succ hm)) hP hD hS hl⟩
        refine lv_iload_n hx hb dX11_orbits_29 rfl (lv_at hl 2 rfl) ?_
        refine lv_aload_n hx hb dX11_orbits_30 rfl (lv_at hl 0 rfl) ?_
        refine va_get (D := G) (ci := 10) (v := .int t_n) (C := RX11) (T := TX11) (N := 29) hx hb hts inX11 hown hK hP 0 rfl rfl 1 (by decide) hf9 (fun _ h9 => h9) rfl dX11_orbits_31 ?_
        obtain ⟨ht, hf⟩ := h
        refine lv_icmp_ge (tgt := 55) hx hb dX11_orbits_34 (by decide) (fun c9 => ?_) (fun c9 => ?_)
        · have h := ht c9
          refine lv_iload_n hx hb dX11_orbits_55 rfl (lv_at hl 1 rfl) ?_
          exact hret x1 t_thrown t_rows t_h t_orbit t_row H locs ls _ hP hD hS h dX11_orbits_56
        · have h := hf c9
          refine lv_aload_n hx hb dX11_orbits_37 rfl (lv_at hl 0 rfl) ?_
          refine va_get (D := G) (ci := 10) (v := .ref (B_t 12)) (C := RX11) (T := TX11) (N := 29) hx hb hts inX11 hown hK hP 0 rfl rfl 12 (by decide) hf41 (fun _ h9 => h9) rfl dX11_orbits_38 ?_
          refine lv_iload_n hx hb dX11_orbits_41 rfl (lv_at hl 2 rfl) ?_
          refine lv_aload_n hx hb dX11_orbits_42 rfl (lv_at hl 0 rfl) ?_
          refine va_get (D := G) (ci := 10) (v := .ref (B_t 13)) (C := RX11) (T := TX11) (N := 29) hx hb hts inX11 hown hK hP 0 rfl rfl 13 (by decide) hf44 (fun _ h9 => h9) rfl dX11_orbits_43 ?_
          refine lv_iload_n hx hb dX11_orbits_46 rfl (lv_at hl 2 rfl) ?_
          obtain ⟨hin, h⟩ := h
          refine va_iald hx hb hK hP 2 0 rfl rfl hin dX11_orbits_47 ?_
          obtain ⟨hin, h⟩ := h
          refine va_iast hx hb hK hP hD hS 3 0 rfl rfl hin dX11_orbits_48 (fun H locs hP hD hS => ?_)
          have hP : va_P G vwCl (w_X11_orbits Y h_t B_t t_thrown t_n t_modulus t_rows t_strands t_letters t_listedMany t_listN t_listWhat t_h t_orbit (upd t_row (Int32.toNatClampNeg x2) (t_orbit (Int32.toNatClampNeg x2))) t_table) H := hP
          have hD : va_D A (w_X11_orbits Y h_t B_t t_thrown t_n t_modulus t_rows t_strands t_letters t_listedMany t_listN t_listWhat t_h t_orbit (upd t_row (Int32.toNatClampNeg x2) (t_orbit (Int32.toNatClampNeg x2))) t_table) := hD
          refine lv_iinc (v := (x2 + 1)) (lv' := [(2, .int (x2 + 1)), (0, .ref h_t), (1, .int x1)]) hx hb dX11_orbits_49 hl (k := 2) rfl rfl (by decide) rfl (fun ls hl => ?_)
          refine lv_goto (tgt := 29) hx hb dX11_orbits_52 (by decide) ?_
          exact rec29 (x2 + 1) (upd t_row (Int32.toNatClampNeg x2) (t_orbit (Int32.toNatClampNeg x2))) H locs ls h hP hD hS (lv_sub hl [1, 2, 0] rfl)
    exact L29 r15 (0 : Int32) t_n t_h_15 t_orbit_15 I29 m29 hB29 _ (0 : Int32) t_row H locs ls hI29 (Nat.lt_succ_self _) hP hD hS (lv_sub hl [2, 1, 0] rfl)
  · have h := hf c9
    refine lv_iconst (v := -1) hx hb dX11_orbits_12 (by decide) ?_
    exact hret (-1 : Int32) (0 : Int32) t_rows t_h t_orbit t_row H locs ls _ hP hD hS h dX11_orbits_13

set_option maxHeartbeats 20000000 in
set_option maxRecDepth 100000 in
theorem c_X11_orbits (l : Launch) (G : va_G) (Y : Nat → ClassId) (tF sz : Nat) (h_t : Nat) (B_t : Nat → Nat) (t_thrown : Int32) (t_n : Int32) (t_modulus : Int32) (t_rows : Int32) (t_strands : Int32) (t_letters : Int32) (t_listedMany : Int32) (t_listN : Int32) (t_listWhat : Int32) (t_h : Nat → Int32) (t_orbit : Nat → Int32) (t_row : Nat → Int32) (t_table : Nat → Int32) {K : Int32 → Int32 → Int32 → (Nat → Int32) → (Nat → Int32) → (Nat → Int32) → Prop} (h : pX11_orbits t_thrown t_n t_rows t_h t_orbit t_row t_table K) : Met l yX11_orbits wsX11_orbits ({ frames := 3, cells := 0, slots := 0, locals := 65 }) (PcM G Y tF sz (w_X11_orbits Y h_t B_t t_thrown t_n t_modulus t_rows t_strands t_letters t_listedMany t_listN t_listWhat t_h t_orbit t_row t_table) [.ref h_t]) (va_Qi (fun (r : Int32) (u : Int32 × Int32 × (Nat → Int32) × (Nat → Int32) × (Nat → Int32)) => K r u.1 u.2.1 u.2.2.1 u.2.2.2.1 u.2.2.2.2) (fun u t => BM G Y (va_A (w_X11_orbits Y h_t B_t t_thrown t_n t_modulus t_rows t_strands t_letters t_listedMany t_listN t_listWhat t_h t_orbit t_row t_table) sz) (w_X11_orbits Y h_t B_t u.1 t_n t_modulus u.2.1 t_strands t_letters t_listedMany t_listN t_listWhat u.2.2.1 u.2.2.2.1 u.2.2.2.2 t_table) t) (va_A (w_X11_orbits Y h_t B_t t_thrown t_n t_modulus t_rows t_strands t_letters t_listedMany t_listN t_listWhat t_h t_orbit t_row t_table) sz)) 0 0 (va_A (w_X11_orbits Y h_t B_t t_thrown t_n t_modulus t_rows t_strands t_letters t_listedMany t_listN t_listWhat t_h t_orbit t_row t_table) sz) := by
  refine Met.ofW (cc := cX11_orbits) (maxL := 3) (ret := (some .int)) (by decide +kernel) rfl ?_
  intro p e s m args below meth c s₁ B hml hv
  obtain ⟨rfl, hsz, hP, hK, hD0, hE⟩ := hv
  have hts := atoms_spec (ws := wsX11_orbits) B.pre
  have hown : s.vm.findClass RX11 = some m.cls := findClass_of_methodNamed B.named
  have hlocks := B.notSynchronized
  subst hsz
  have hD := hD0.self (sz := s.heap.size)
  exact wk_X11_orbits h_t B_t t_thrown t_n t_modulus t_rows t_strands t_letters t_listedMany t_listN t_listWhat t_h t_orbit t_row t_table B.exec B.bytes hml hown hts hK hE (fun q h => Or.inr h) (Nat.le_refl _) (Nat.le_refl _) (fun r t_thrown t_rows t_h t_orbit t_row H locs ls pc hP hD hS hk hd => W.iret (v := r) B.exec B.bytes B.returns (fun t ht hW => ⟨⟨r, (t_thrown, t_rows, t_h, t_orbit, t_row), rfl, hk, by rw [ht]; exact hP, va_K.moved hW.alike hK, hD⟩, hS.F ht⟩) hS.2.2 hd) hP hD h

