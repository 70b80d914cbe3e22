abbrev w_X11_numbered (Y : Nat → ClassId) (h_t : Nat) (h_p1 : Nat) (B_t : Nat → Nat) (N_p1 : Nat) (t_thrown : Int32) (t_n : Int32) (t_modulus : Int32) (t_rows : Int32) (t_strands : Int32) (t_letters : Int32) (t_listedMany : Int32) (t_listN : Int32) (t_listWhat : Int32) (t_h : Nat → Int32) (p1 : Nat → Int32) : va_W := [(h_t, .inr (10, [.int t_thrown, .int t_n, .ref (B_t 2), .int t_modulus, .ref (B_t 4), .ref (B_t 5), .ref (B_t 6), .ref (B_t 7), .ref (B_t 8), .ref (B_t 9), .ref (B_t 10), .int t_rows, .ref (B_t 12), .ref (B_t 13), .ref (B_t 14), .ref (B_t 15), .ref (B_t 16), .ref (B_t 17), .ref (B_t 18), .ref (B_t 19), .int t_strands, .int t_letters, .ref (B_t 22), .ref (B_t 23), .ref (B_t 24), .ref (B_t 25), .int t_listedMany, .int t_listN, .int t_listWhat])), ((B_t 7), .inl (Y 0, 8, .inl t_h)), (h_p1, .inl (Y 0, N_p1, .inl p1))]

set_option maxHeartbeats 4000000 in
set_option maxRecDepth 100000 in
theorem wk_X11_numbered {p : Program} {l : Launch} {e : Env} {R : Room} {s : State} {m : MethodId} {args : Array Value} {below : List Frame} {meth : Method} {c : Code} {Q : State → Prop} {G : va_G} {Y : Nat → ClassId} {tF : Nat} {A : Nat → Prop} (h_t : Nat) (h_p1 : Nat) (B_t : Nat → Nat) (N_p1 : Nat) (t_thrown : Int32) (t_n : Int32) (t_modulus : Int32) (t_rows : Int32) (t_strands : Int32) (t_letters : Int32) (t_listedMany : Int32) (t_listN : Int32) (t_listWhat : Int32) (t_h : Nat → Int32) (p1 : Nat → Int32) {K : Int32 → (Nat → Int32) → (Nat → Int32) → Prop} (hx : p.tables.exec = Jvm.exec) (hb : c.code = cX11_numbered) (hml : c.maxLocals = 4) (hown : s.vm.findClass RX11 = some m.cls) (hts : ∀ w ∈ wsX11_numbered, w.before args s = true) (hK : va_K G vwCl (tyL Y) s) (hE : Ev A tF s) (hA : ∀ q, s.heap.size ≤ q → A q) (hRf : 0 ≤ R.frames) (hRl : 0 ≤ R.locals) (hret : ∀ (r : Int32) (t_h : Nat → Int32) (p1 : Nat → Int32) (H : Heap) (locs : List Loc) (ls : Array Slot) (pc : Nat), va_P G vwCl (w_X11_numbered Y h_t h_p1 B_t N_p1 t_thrown t_n t_modulus t_rows t_strands t_letters t_listedMany t_listN t_listWhat t_h p1) H → va_D A (w_X11_numbered Y h_t h_p1 B_t N_p1 t_thrown t_n t_modulus t_rows t_strands t_letters t_listedMany t_listN t_listWhat t_h p1) → va_S A s.heap H locs → K r t_h p1 → decode cX11_numbered pc = .ok (.ireturn, 1) → W p l e R s m args below meth c H locs 0 0 Q (F0 m pc ls [.int r])) (hP : va_P G vwCl (w_X11_numbered Y h_t h_p1 B_t N_p1 t_thrown t_n t_modulus t_rows t_strands t_letters t_listedMany t_listN t_listWhat t_h p1) s.heap) (hD : va_D A (w_X11_numbered Y h_t h_p1 B_t N_p1 t_thrown t_n t_modulus t_rows t_strands t_letters t_listedMany t_listN t_listWhat t_h p1)) (h : pX11_numbered N_p1 t_n t_h p1 K) : W p l e R s m args below meth c s.heap [] 0 0 Q (entryFrame m ([.ref h_t, .ref h_p1] : List Value).toArray 4) := by
  have inX11 : ∀ w ∈ u_ws RX11 TX11 29, w ∈ wsX11_numbered := by decide +kernel
  have hf29 := hts (.fieldLink RX11 29 "RackBenchModel" "h" "[I") (by decide +kernel)
  have hf9 := hts (.fieldLink RX11 9 "RackBenchModel" "n" "I") (by decide +kernel)
  have hl := lv_entry ([.ref h_t, .ref h_p1]) (n := 4) (Nat.le_of_ble_eq_true rfl)
  rw [lg_entry_eq]
  generalize (lg_sl ([.ref h_t, .ref h_p1]) ++ List.replicate (4 - (lg_sl ([.ref h_t, .ref h_p1])).length) Slot.unset).toArray = ls at hl ⊢
  have hl : lv_has ls 4 [(0, .ref h_t), (1, .ref h_p1)] := hl
  generalize hH0 : s.heap = H at hP ⊢
  have hS : va_S A s.heap H [] := by rw [← hH0]; exact va_S.rf
  clear hH0
  generalize ([] : List Loc) = locs at hS ⊢
  refine lv_iconst (v := 0) hx hb dX11_numbered_0 (by decide) ?_
  refine lv_istore_n (lv' := [(2, .int (0 : Int32)), (0, .ref h_t), (1, .ref h_p1)]) hx hb dX11_numbered_1 rfl hl (by decide) rfl (fun ls hl => ?_)
  refine lv_iconst (v := 0) hx hb dX11_numbered_2 (by decide) ?_
  refine lv_istore_n (lv' := [(3, .int (0 : Int32)), (2, .int (0 : Int32)), (0, .ref h_t), (1, .ref h_p1)]) hx hb dX11_numbered_3 rfl hl (by decide) rfl (fun ls hl => ?_)
  obtain ⟨I4, m4, hI4, hB4⟩ := h
  have L4 : ∀ (p1 : Nat → Int32) (I4 : Int32 → Int32 → (Nat → Int32) → Prop) (m4 : Int32 → Int32 → (Nat → Int32) → Nat), (∀ (x2 : Int32) (x3 : Int32) (t_h : Nat → Int32), I4 x2 x3 t_h → pX11_numbered_4 N_p1 t_n K p1 x2 x3 t_h (fun x2' x3' t_h' => I4 x2' x3' t_h' ∧ m4 x2' x3' t_h' < m4 x2 x3 t_h)) → ∀ (n : Nat) (x2 : Int32) (x3 : Int32) (t_h : Nat → Int32) (H : Heap) (locs : List Loc) (ls : Array Slot), I4 x2 x3 t_h → m4 x2 x3 t_h < n → va_P G vwCl (w_X11_numbered Y h_t h_p1 B_t N_p1 t_thrown t_n t_modulus t_rows t_strands t_letters t_listedMany t_listN t_listWhat t_h p1) H → va_D A (w_X11_numbered Y h_t h_p1 B_t N_p1 t_thrown t_n t_modulus t_rows t_strands t_letters t_listedMany t_listN t_listWhat t_h p1) → va_S A s.heap H locs → lv_has ls 4 [(0, .ref h_t), (1, .ref h_p1), (2, .int x2), (3, .int x3)] → W p l e R s m args below meth c H locs 0 0 Q (F0 m 4 ls []) := by
    intro p1 I4 m4 hB4 n
    induction n with
    | zero => intro x2 x3 t_h H locs ls _ hm; exact absurd hm (Nat.not_lt_zero _)
    | succ n ih =>
      intro x2 x3 t_h H locs ls hI hm hP hD hS hl
      obtain ⟨R4, h, rec4⟩ : ∃ R4 : Int32 → Int32 → (Nat → Int32) → Prop, pX11_numbered_4 N_p1 t_n K p1 x2 x3 t_h R4 ∧ ∀ (x2 : Int32) (x3 : Int32) (t_h : Nat → Int32) (H : Heap) (locs : List Loc) (ls : Array Slot), R4 x2 x3 t_h → va_P G vwCl (w_X11_numbered Y h_t h_p1 B_t N_p1 t_thrown t_n t_modulus t_rows t_strands t_letters t_listedMany t_listN t_listWhat t_h p1) H → va_D A (w_X11_numbered Y h_t h_p1 B_t N_p1 t_thrown t_n t_modulus t_rows t_strands t_letters t_listedMany t_listN t_listWhat t_h p1) → va_S A s.heap H locs → lv_has ls 4 [(0, .ref h_t), (1, .ref h_p1), (2, .int x2), (3, .int x3)] → W p l e R s m args below meth c H locs 0 0 Q (F0 m 4 ls []) := ⟨_, hB4 x2 x3 t_h hI, fun x2 x3 t_h H locs ls hh hP hD hS hl => ih x2 x3 t_h H locs ls hh.1 (Nat.lt_of_lt_of_le hh.2 (Nat.le_of_lt_succ hm)) hP hD hS hl⟩
      refine lv_iload_n hx hb dX11_numbered_4 rfl (lv_at hl 3 rfl) ?_
      refine lv_aload_n hx hb dX11_numbered_5 rfl (lv_at hl 0 rfl) ?_
      refine va_get (D := G) (ci := 10) (v := .int t_n) (C := RX11) (T := TX11) (N := 29) hx hb hts inX11 hown hK hP 0 rfl rfl 1 (by decide) hf9 (fun _ h9 => h9) rfl dX11_numbered_6 ?_
      obtain ⟨ht, hf⟩ := h
      refine lv_icmp_ge (tgt := 35) hx hb dX11_numbered_9 (by decide) (fun c9 => ?_) (fun c9 => ?_)
      · have h := ht c9
        refine lv_iconst (v := 0) hx hb dX11_numbered_35 (by decide) ?_
        refine lv_istore_n (lv' := [(3, .int (0 : Int32)), (0, .ref h_t), (1, .ref h_p1), (2, .int x2)]) hx hb dX11_numbered_36 rfl hl (by decide) rfl (fun ls hl => ?_)
        obtain ⟨I37, m37, hI37, hB37⟩ := h
        have L37 : ∀ (x2 : Int32) (t_h : Nat → Int32) (I37 : Int32 → (Nat → Int32) → Prop) (m37 : Int32 → (Nat → Int32) → Nat), (∀ (x3 : Int32) (p1 : Nat → Int32), I37 x3 p1 → pX11_numbered_37 N_p1 t_n R4 K x2 t_h x3 p1 (fun x3' p1' => I37 x3' p1' ∧ m37 x3' p1' < m37 x3 p1)) → ∀ (n : Nat) (x3 : Int32) (p1 : Nat → Int32) (H : Heap) (locs : List Loc) (ls : Array Slot), I37 x3 p1 → m37 x3 p1 < n → va_P G vwCl (w_X11_numbered Y h_t h_p1 B_t N_p1 t_thrown t_n t_modulus t_rows t_strands t_letters t_listedMany t_listN t_listWhat t_h p1) H → va_D A (w_X11_numbered Y h_t h_p1 B_t N_p1 t_thrown t_n t_modulus t_rows t_strands t_letters t_listedMany t_listN t_listWhat t_h p1) → va_S A s.heap H locs → lv_has ls 4 [(0, .ref h_t), (1, .ref h_p1), (2, .int x2), (3, .int x3)] → W p l e R s m args below meth c H locs 0 0 Q (F0 m 37 ls []) := by
          intro x2 t_h I37 m37 hB37 n
          induction n with
          | zero => intro x3 p1 H locs ls _ hm; exact absurd hm (Nat.not_lt_zero _)
          | succ n ih =>
            intro x3 p1 H locs ls hI hm hP hD hS hl
            obtain ⟨R37, h, rec37⟩ : ∃ R37 : Int32 → (Nat → Int32) → Prop, pX11_numbered_37 N_p1 t_n R4 K x2 t_h x3 p1 R37 ∧ ∀ (x3 : Int32) (p1 : Nat → Int32) (H : Heap) (locs : List Loc) (ls : Array Slot), R37 x3 p1 → va_P G vwCl (w_X11_numbered Y h_t h_p1 B_t N_p1 t_thrown t_n t_modulus t_rows t_strands t_letters t_listedMany t_listN t_listWhat t_h p1) H → va_D A (w_X11_numbered Y h_t h_p1 B_t N_p1 t_thrown t_n t_modulus t_rows t_strands t_letters t_listedMany t_listN t_listWhat t_h p1) → va_S A s.heap H locs → lv_has ls 4 [(0, .ref h_t), (1, .ref h_p1), (2, .int x2), (3, .int x3)] → W p l e R s m args below meth c H locs 0 0 Q (F0 m 37 ls []) := ⟨_, hB37 x3 p1 hI, fun x3 p1 H locs ls hh hP hD hS hl => ih x3 p1 H locs ls hh.1 (Nat.lt_of_lt_of_le hh.2 (Nat.le_of_lt_succ hm)) hP hD hS hl⟩
            refine lv_iload_n hx hb dX11_numbered_37 rfl (lv_at hl 3 rfl) ?_
            refine lv_aload_n hx hb dX11_numbered_38 rfl (lv_at hl 0 rfl) ?_
            refine va_get (D := G) (ci := 10) (v := .int t_n) (C := RX11) (T := TX11) (N := 29) hx hb hts inX11 hown hK hP 0 rfl rfl 1 (by decide) hf9 (fun _ h9 => h9) rfl dX11_numbered_39 ?_
            obtain ⟨ht, hf⟩ := h
            refine lv_icmp_ge (tgt := 62) hx hb dX11_numbered_42 (by decide) (fun c9 => ?_) (fun c9 => ?_)
            · have h := ht c9
              refine lv_iload_n hx hb dX11_numbered_62 rfl (lv_at hl 2 rfl) ?_
              exact hret x2 t_h p1 H locs ls _ hP hD hS h dX11_numbered_63
            · have h := hf c9
              refine lv_aload_n hx hb dX11_numbered_45 rfl (lv_at hl 1 rfl) ?_
              refine lv_iload_n hx hb dX11_numbered_46 rfl (lv_at hl 3 rfl) ?_
              refine lv_aload_n hx hb dX11_numbered_47 rfl (lv_at hl 0 rfl) ?_
              refine va_get (D := G) (ci := 10) (v := .ref (B_t 7)) (C := RX11) (T := TX11) (N := 29) hx hb hts inX11 hown hK hP 0 rfl rfl 7 (by decide) hf29 (fun _ h9 => h9) rfl dX11_numbered_48 ?_
              refine lv_aload_n hx hb dX11_numbered_51 rfl (lv_at hl 1 rfl) ?_
              refine lv_iload_n hx hb dX11_numbered_52 rfl (lv_at hl 3 rfl) ?_
              obtain ⟨hin, h⟩ := h
              refine va_iald hx hb hK hP 2 0 rfl rfl hin dX11_numbered_53 ?_
              obtain ⟨hin, h⟩ := h
              refine va_iald hx hb hK hP 1 0 rfl rfl hin dX11_numbered_54 ?_
              obtain ⟨hin, h⟩ := h
              refine va_iast hx hb hK hP hD hS 2 0 rfl rfl hin dX11_numbered_55 (fun H locs hP hD hS => ?_)
              have hP : va_P G vwCl (w_X11_numbered Y h_t h_p1 B_t N_p1 t_thrown t_n t_modulus t_rows t_strands t_letters t_listedMany t_listN t_listWhat t_h (upd p1 (Int32.toNatClampNeg x3) (t_h (Int32.toNatClampNeg (p1 (Int32.toNatClampNeg x3)))))) H := hP
              have hD : va_D A (w_X11_numbered Y h_t h_p1 B_t N_p1 t_thrown t_n t_modulus t_rows t_strands t_letters t_listedMany t_listN t_listWhat t_h (upd p1 (Int32.toNatClampNeg x3) (t_h (Int32.toNatClampNeg (p1 (Int32.toNatClampNeg x3)))))) := hD
              refine lv_iinc (v := (x3 + 1)) (lv' := [(3, .int (x3 + 1)), (0, .ref h_t), (1, .ref h_p1), (2, .int x2)]) hx hb dX11_numbered_56 hl (k := 3) rfl rfl (by decide) rfl (fun ls hl => ?_)
              refine lv_goto (tgt := 37) hx hb dX11_numbered_59 (by decide) ?_
              exact rec37 (x3 + 1) (upd p1 (Int32.toNatClampNeg x3) (t_h (Int32.toNatClampNeg (p1 (Int32.toNatClampNeg x3))))) H locs ls h hP hD hS (lv_sub hl [1, 2, 3, 0] rfl)
        exact L37 x2 t_h I37 m37 hB37 _ (0 : Int32) p1 H locs ls hI37 (Nat.lt_succ_self _) hP hD hS (lv_sub hl [1, 2, 3, 0] rfl)
      · have h := hf c9
        refine lv_aload_n hx hb dX11_numbered_12 rfl (lv_at hl 1 rfl) ?_
        refine lv_iload_n hx hb dX11_numbered_13 rfl (lv_at hl 3 rfl) ?_
        obtain ⟨hin, h⟩ := h
        refine va_iald hx hb hK hP 2 0 rfl rfl hin dX11_numbered_14 ?_
        refine lv_iload_n hx hb dX11_numbered_15 rfl (lv_at hl 3 rfl) ?_
        obtain ⟨ht, hf⟩ := h
        refine lv_icmp_ne (tgt := 29) hx hb dX11_numbered_16 (by decide) (fun c9 => ?_) (fun c9 => ?_)
        · have h := ht c9
          refine lv_iinc (v := (x3 + 1)) (lv' := [(3, .int (x3 + 1)), (0, .ref h_t), (1, .ref h_p1), (2, .int x2)]) hx hb dX11_numbered_29 hl (k := 3) rfl rfl (by decide) rfl (fun ls hl => ?_)
          refine lv_goto (tgt := 4) hx hb dX11_numbered_32 (by decide) ?_
          exact rec4 x2 (x3 + 1) t_h H locs ls h hP hD hS (lv_sub hl [1, 2, 3, 0] rfl)
        · have h := hf c9
          refine lv_aload_n hx hb dX11_numbered_19 rfl (lv_at hl 0 rfl) ?_
          refine va_get (D := G) (ci := 10) (v := .ref (B_t 7)) (C := RX11) (T := TX11) (N := 29) hx hb hts inX11 hown hK hP 0 rfl rfl 7 (by decide) hf29 (fun _ h9 => h9) rfl dX11_numbered_20 ?_
          refine lv_iload_n hx hb dX11_numbered_23 rfl (lv_at hl 3 rfl) ?_
          refine lv_iload_n hx hb dX11_numbered_24 rfl (lv_at hl 2 rfl) ?_
          obtain ⟨hin, h⟩ := h
          refine va_iast hx hb hK hP hD hS 1 0 rfl rfl hin dX11_numbered_25 (fun H locs hP hD hS => ?_)
          have hP : va_P G vwCl (w_X11_numbered Y h_t h_p1 B_t N_p1 t_thrown t_n t_modulus t_rows t_strands t_letters t_listedMany t_listN t_listWhat (upd t_h (Int32.toNatClampNeg x3) x2) p1) H := hP
          have hD : va_D A (w_X11_numbered Y h_t h_p1 B_t N_p1 t_thrown t_n t_modulus t_rows t_strands t_letters t_listedMany t_listN t_listWhat (upd t_h (Int32.toNatClampNeg x3) x2) p1) := hD
          refine lv_iinc (v := (x2 + 1)) (lv' := [(2, .int (x2 + 1)), (0, .ref h_t), (1, .ref h_p1), (3, .int x3)]) hx hb dX11_numbered_26 hl (k := 2) rfl rfl (by decide) rfl (fun ls hl => ?_)
          refine lv_iinc (v := (x3 + 1)) (lv' := [(3, .int (x3 + 1)), (2, .int (x2 + 1)), (0, .ref h_t), (1, .ref h_p1)]) hx hb dX11_numbered_29 hl (k := 3) rfl rfl (by decide) rfl (fun ls hl => ?_)
          refine lv_goto (tgt := 4) hx hb dX11_numbered_32 (by decide) ?_
          exact rec4 (x2 + 1) (x3 + 1) (upd t_h (Int32.toNatClampNeg x3) x2) H locs ls h hP hD hS (lv_sub hl [2, 3, 1, 0] rfl)
  exact L4 p1 I4 m4 hB4 _ (0 : Int32) (0 : Int32) t_h H locs ls hI4 (Nat.lt_succ_self _) hP hD hS (lv_sub hl [2, 3, 1, 0] rfl)

set_option maxHeartbeats 4000000 in
set_option maxRecDepth 100000 in
theorem c_X11_numbered (l : Launch) (G : va_G) (Y : Nat → ClassId) (tF sz : Nat) (h_t : Nat) (h_p1 : Nat) (B_t : Nat → Nat) (N_p1 : Nat) (t_thrown : Int32) (t_n : Int32) (t_modulus : Int32) (t_rows : Int32) (t_strands : Int32) (t_letters : Int32) (t_listedMany : Int32) (t_listN : Int32) (t_listWhat : Int32) (t_h : Nat → Int32) (p1 : Nat → Int32) {K : Int32 → (Nat → Int32) → (Nat → Int32) → Prop} (h : pX11_numbered N_p1 t_n t_h p1 K) : Met l yX11_numbered wsX11_numbered ({ frames := 0, cells := 0, slots := 0, locals := 0 }) (PcM G Y tF sz (w_X11_numbered Y h_t h_p1 B_t N_p1 t_thrown t_n t_modulus t_rows t_strands t_letters t_listedMany t_listN t_listWhat t_h p1) [.ref h_t, .ref h_p1]) (va_Qi (fun (r : Int32) (u : (Nat → Int32) × (Nat → Int32)) => K r u.1 u.2) (fun u t => BM G Y (va_A (w_X11_numbered Y h_t h_p1 B_t N_p1 t_thrown t_n t_modulus t_rows t_strands t_letters t_listedMany t_listN t_listWhat t_h p1) sz) (w_X11_numbered Y h_t h_p1 B_t N_p1 t_thrown t_n t_modulus t_rows t_strands t_letters t_listedMany t_listN t_listWhat u.1 u.2) t) (va_A (w_X11_numbered Y h_t h_p1 B_t N_p1 t_thrown t_n t_modulus t_rows t_strands t_letters t_listedMany t_listN t_listWhat t_h p1) sz)) 0 0 (va_A (w_X11_numbered Y h_t h_p1 B_t N_p1 t_thrown t_n t_modulus t_rows t_strands t_letters t_listedMany t_listN t_listWhat t_h p1) sz) := by
  refine Met.ofW (cc := cX11_numbered) (maxL := 4) (ret := (some .int)) (by decide +kernel) rfl ?_
  intro p e s m args below meth c s₁ B hml hv
  obtain ⟨rfl, hsz, hP, hK, hD0, hE⟩ := hv
  have hts := atoms_spec (ws := wsX11_numbered) B.pre
  have hown : s.vm.findClass RX11 = some m.cls := findClass_of_methodNamed B.named
  have hlocks := B.notSynchronized
  subst hsz
  have hD := hD0.self (sz := s.heap.size)
  exact wk_X11_numbered h_t h_p1 B_t N_p1 t_thrown t_n t_modulus t_rows t_strands t_letters t_listedMany t_listN t_listWhat t_h p1 B.exec B.bytes hml hown hts hK hE (fun q h => Or.inr h) (Nat.le_refl _) (Nat.le_refl _) (fun r t_h p1 H locs ls pc hP hD hS hk hd => W.iret (v := r) B.exec B.bytes B.returns (fun t ht hW => ⟨⟨r, (t_h, p1), rfl, hk, by rw [ht]; exact hP, va_K.moved hW.alike hK, hD⟩, hS.F ht⟩) hS.2.2 hd) hP hD h

abbrev w_X11_findsOrbits (Y : Nat → ClassId) (h_t : Nat) (B_t : Nat → Nat) (t_thrown : Int32) (t_n : Int32) (t_modulus : Int32) (t_rows : Int32) (t_strands : Int32) (t_letters : Int32) (t_listedMany : Int32) (t_listN : Int32) (t_listWhat : Int32) (t_h : Nat → Int32) (t_orbit : Nat → Int32) (t_table : Nat → Int32) : va_W := [(h_t, .inr (10, [.int t_thrown, .int t_n, .ref (B_t 2), .int t_modulus, .ref (B_t 4), .ref (B_t 5), .ref (B_t 6), .ref (B_t 7), .ref (B_t 8), .ref (B_t 9), .ref (B_t 10), .int t_rows, .ref (B_t 12), .ref (B_t 13), .ref (B_t 14), .ref (B_t 15), .ref (B_t 16), .ref (B_t 17), .ref (B_t 18), .ref (B_t 19), .int t_strands, .int t_letters, .ref (B_t 22), .ref (B_t 23), .ref (B_t 24), .ref (B_t 25), .int t_listedMany, .int t_listN, .int t_listWhat])), ((B_t 7), .inl (Y 0, 8, .inl t_h)), ((B_t 13), .inl (Y 0, 8, .inl t_orbit)), ((B_t 2), .inl (Y 0, 64, .inl t_table))]

set_option maxHeartbeats 4000000 in
set_option maxRecDepth 100000 in
theorem wk_X11_findsOrbits {p : Program} {l : Launch} {e : Env} {R : Room} {s : State} {m : MethodId} {args : Array Value} {below : List Frame} {meth : Method} {c : Code} {Q : State → Prop} {G : va_G} {Y : Nat → ClassId} {tF : Nat} {A : Nat → Prop} (h_t : Nat) (B_t : Nat → Nat) (t_thrown : Int32) (t_n : Int32) (t_modulus : Int32) (t_rows : Int32) (t_strands : Int32) (t_letters : Int32) (t_listedMany : Int32) (t_listN : Int32) (t_listWhat : Int32) (t_h : Nat → Int32) (t_orbit : Nat → Int32) (t_table : Nat → Int32) {K : Int32 → (Nat → Int32) → (Nat → Int32) → Prop} (hx : p.tables.exec = Jvm.exec) (hb : c.code = cX11_findsOrbits) (hml : c.maxLocals = 5) (hown : s.vm.findClass RX11 = some m.cls) (hts : ∀ w ∈ wsX11_findsOrbits, w.before args s = true) (hK : va_K G vwCl (tyL Y) s) (hE : Ev A tF s) (hA : ∀ q, s.heap.size ≤ q → A q) (hRf : 1 ≤ R.frames) (hRl : 24 ≤ R.locals) (hret : ∀ (r : Int32) (t_h : Nat → Int32) (t_orbit : Nat → Int32) (H : Heap) (locs : List Loc) (ls : Array Slot) (pc : Nat), va_P G vwCl (w_X11_findsOrbits Y h_t B_t t_thrown t_n t_modulus t_rows t_strands t_letters t_listedMany t_listN t_listWhat t_h t_orbit t_table) H → va_D A (w_X11_findsOrbits Y h_t B_t t_thrown t_n t_modulus t_rows t_strands t_letters t_listedMany t_listN t_listWhat t_h t_orbit t_table) → va_S A s.heap H locs → K r t_h t_orbit → decode cX11_findsOrbits pc = .ok (.ireturn, 1) → W p l e R s m args below meth c H locs 0 0 Q (F0 m pc ls [.int r])) (hP : va_P G vwCl (w_X11_findsOrbits Y h_t B_t t_thrown t_n t_modulus t_rows t_strands t_letters t_listedMany t_listN t_listWhat t_h t_orbit t_table) s.heap) (hD : va_D A (w_X11_findsOrbits Y h_t B_t t_thrown t_n t_modulus t_rows t_strands t_letters t_listedMany t_listN t_listWhat t_h t_orbit t_table)) (h : pX11_findsOrbits t_n t_h t_orbit t_table K) : W p l e R s m args below meth c s.heap [] 0 0 Q (entryFrame m ([.ref h_t] : List Value).toArray 5) := by
  have inX11 : ∀ w ∈ u_ws RX11 TX11 29, w ∈ wsX11_findsOrbits := by decide +kernel
  have hf44 := hts (.fieldLink RX11 44 "RackBenchModel" "orbit" "[I") (by decide +kernel)
  have hf9 := hts (.fieldLink RX11 9 "RackBenchModel" "n" "I") (by decide +kernel)
  have hl := lv_entry ([.ref h_t]) (n := 5) (Nat.le_of_ble_eq_true rfl)
  rw [lg_entry_eq]
  generalize (lg_sl ([.ref h_t]) ++ List.replicate (5 - (lg_sl ([.ref h_t])).length) Slot.unset).toArray = ls at hl ⊢
  have hl : lv_has ls 5 [(0, .ref h_t)] := hl
  generalize hH0 : s.heap = H at hP ⊢
  have hS : va_S A s.heap H [] := by rw [← hH0]; exact va_S.rf
  clear hH0
  generalize ([] : List Loc) = locs at hS ⊢
  refine lv_iconst (v := 0) hx hb dX11_findsOrbits_0 (by decide) ?_
  refine lv_istore_n (lv' := [(1, .int (0 : Int32)), (0, .ref h_t)]) hx hb dX11_findsOrbits_1 rfl hl (by decide) rfl (fun ls hl => ?_)
  obtain ⟨I2, m2, hI2, hB2⟩ := h
  have L2 : ∀ (t_h : Nat → Int32) (I2 : Int32 → (Nat → Int32) → Prop) (m2 : Int32 → (Nat → Int32) → Nat), (∀ (x1 : Int32) (t_orbit : Nat → Int32), I2 x1 t_orbit → pX11_findsOrbits_2 t_n t_table K t_h x1 t_orbit (fun x1' t_orbit' => I2 x1' t_orbit' ∧ m2 x1' t_orbit' < m2 x1 t_orbit)) → ∀ (n : Nat) (x1 : Int32) (t_orbit : Nat → Int32) (H : Heap) (locs : List Loc) (ls : Array Slot), I2 x1 t_orbit → m2 x1 t_orbit < n → va_P G vwCl (w_X11_findsOrbits Y h_t B_t t_thrown t_n t_modulus t_rows t_strands t_letters t_listedMany t_listN t_listWhat t_h t_orbit t_table) H → va_D A (w_X11_findsOrbits Y h_t B_t t_thrown t_n t_modulus t_rows t_strands t_letters t_listedMany t_listN t_listWhat t_h t_orbit t_table) → va_S A s.heap H locs → lv_has ls 5 [(0, .ref h_t), (1, .int x1)] → W p l e R s m args below meth c H locs 0 0 Q (F0 m 2 ls []) := by
    intro t_h I2 m2 hB2 n
    induction n with
    | zero => intro x1 t_orbit H locs ls _ hm; exact absurd hm (Nat.not_lt_zero _)
    | succ n ih =>
      intro x1 t_orbit H locs ls hI hm hP hD hS hl
      obtain ⟨R2, h, rec2⟩ : ∃ R2 : Int32 → (Nat → Int32) → Prop, pX11_findsOrbits_2 t_n t_table K t_h x1 t_orbit R2 ∧ ∀ (x1 : Int32) (t_orbit : Nat → Int32) (H : Heap) (locs : List Loc) (ls : Array Slot), R2 x1 t_orbit → va_P G vwCl (w_X11_findsOrbits Y h_t B_t t_thrown t_n t_modulus t_rows t_strands t_letters t_listedMany t_listN t_listWhat t_h t_orbit t_table) H → va_D A (w_X11_findsOrbits Y h_t B_t t_thrown t_n t_modulus t_rows t_strands t_letters t_listedMany t_listN t_listWhat t_h t_orbit t_table) → va_S A s.heap H locs → lv_has ls 5 [(0, .ref h_t), (1, .int x1)] → W p l e R s m args below meth c H locs 0 0 Q (F0 m 2 ls []) := ⟨_, hB2 x1 t_orbit hI, fun x1 t_orbit H locs ls hh hP hD hS hl => ih x1 t_orbit H locs ls hh.1 (Nat.lt_of_lt_of_le hh.2 (Nat.le_of_lt_succ hm)) hP hD hS hl⟩
      refine lv_iload_n hx hb dX11_findsOrbits_2 rfl (lv_at hl 1 rfl) ?_
      refine lv_aload_n hx hb dX11_findsOrbits_3 rfl (lv_at hl 0 rfl) ?_
      refine va_get (D := G) (ci := 10) (v := .int t_n) (C := RX11) (T := TX11) (N := 29) hx hb hts inX11 hown hK hP 0 rfl rfl 1 (by decide) hf9 (fun _ h9 => h9) rfl dX11_findsOrbits_4 ?_
      obtain ⟨ht, hf⟩ := h
      refine lv_icmp_ge (tgt := 23) hx hb dX11_findsOrbits_7 (by decide) (fun c9 => ?_) (fun c9 => ?_)
      · have h := ht c9
        refine lv_iconst (v := 0) hx hb dX11_findsOrbits_23 (by decide) ?_
        refine lv_istore_n (lv' := [(1, .int (0 : Int32)), (0, .ref h_t)]) hx hb dX11_findsOrbits_24 rfl hl (by decide) rfl (fun ls hl => ?_)
        obtain ⟨I25, m25, hI25, hB25⟩ := h
        have L25 : ∀ (t_h : Nat → Int32) (I25 : Int32 → (Nat → Int32) → Prop) (m25 : Int32 → (Nat → Int32) → Nat), (∀ (x1 : Int32) (t_orbit : Nat → Int32), I25 x1 t_orbit → pX11_findsOrbits_25 t_n t_table R2 K t_h x1 t_orbit (fun x1' t_orbit' => I25 x1' t_orbit' ∧ m25 x1' t_orbit' < m25 x1 t_orbit)) → ∀ (n : Nat) (x1 : Int32) (t_orbit : Nat → Int32) (H : Heap) (locs : List Loc) (ls : Array Slot), I25 x1 t_orbit → m25 x1 t_orbit < n → va_P G vwCl (w_X11_findsOrbits Y h_t B_t t_thrown t_n t_modulus t_rows t_strands t_letters t_listedMany t_listN t_listWhat t_h t_orbit t_table) H → va_D A (w_X11_findsOrbits Y h_t B_t t_thrown t_n t_modulus t_rows t_strands t_letters t_listedMany t_listN t_listWhat t_h t_orbit t_table) → va_S A s.heap H locs → lv_has ls 5 [(0, .ref h_t), (1, .int x1)] → W p l e R s m args below meth c H locs 0 0 Q (F0 m 25 ls []) := by
          intro t_h I25 m25 hB25 n
          induction n with
          | zero => intro x1 t_orbit H locs ls _ hm; exact absurd hm (Nat.not_lt_zero _)
          | succ n ih =>
            intro x1 t_orbit H locs ls hI hm hP hD hS hl
            obtain ⟨R25, h, rec25⟩ : ∃ R25 : Int32 → (Nat → Int32) → Prop, pX11_findsOrbits_25 t_n t_table R2 K t_h x1 t_orbit R25 ∧ ∀ (x1 : Int32) (t_orbit : Nat → Int32) (H : Heap) (locs : List Loc) (ls : Array Slot), R25 x1 t_orbit → va_P G vwCl (w_X11_findsOrbits Y h_t B_t t_thrown t_n t_modulus t_rows t_strands t_letters t_listedMany t_listN t_listWhat t_h t_orbit t_table) H → va_D A (w_X11_findsOrbits Y h_t B_t t_thrown t_n t_modulus t_rows t_strands t_letters t_listedMany t_listN t_listWhat t_h t_orbit t_table) → va_S A s.heap H locs → lv_has ls 5 [(0, .ref h_t), (1, .int x1)] → W p l e R s m args below meth c H locs 0 0 Q (F0 m 25 ls []) := ⟨_, hB25 x1 t_orbit hI, fun x1 t_orbit H locs ls hh hP hD hS hl => ih x1 t_orbit H locs ls hh.1 (Nat.lt_of_lt_of_le hh.2 (Nat.le_of_lt_succ hm)) hP hD hS hl⟩
            refine lv_iload_n hx hb dX11_findsOrbits_25 rfl (lv_at hl 1 rfl) ?_
            refine lv_aload_n hx hb dX11_findsOrbits_26 rfl (lv_at hl 0 rfl) ?_
            refine va_get (D := G) (ci := 10) (v := .int t_n) (C := RX11) (T := TX11) (N := 29) hx hb hts inX11 hown hK hP 0 rfl rfl 1 (by decide) hf9 (fun _ h9 => h9) rfl dX11_findsOrbits_27 ?_
            obtain ⟨ht, hf⟩ := h
            refine lv_icmp_ge (tgt := 114) hx hb dX11_findsOrbits_30 (by decide) (fun c9 => ?_) (fun c9 => ?_)
            · have h := ht c9
              refine lv_aload_n hx hb dX11_findsOrbits_114 rfl (lv_at hl 0 rfl) ?_
              refine lv_aload_n hx hb dX11_findsOrbits_115 rfl (lv_at hl 0 rfl) ?_
              refine va_get (D := G) (ci := 10) (v := .ref (B_t 13)) (C := RX11) (T := TX11) (N := 29) hx hb hts inX11 hown hK hP 0 rfl rfl 13 (by decide) hf44 (fun _ h9 => h9) rfl dX11_findsOrbits_116 ?_
              refine mc_iV ⟨hx, hb, hml, hown, hts⟩ hK hE hA hP hD hS (c_X11_numbered l G Y tF H.size h_t (B_t 13) B_t 8 t_thrown t_n t_modulus t_rows t_strands t_letters t_listedMany t_listN t_listWhat t_h t_orbit h) (cwV 1 hts gX11_findsOrbits_X11_numbered rfl rfl rfl (by decide +kernel) ⟨Nat.le_trans (by decide) hRf, Nat.le_trans (by decide) hRl⟩) (fun u => (w_X11_findsOrbits Y h_t B_t t_thrown t_n t_modulus t_rows t_strands t_letters t_listedMany t_listN t_listWhat u.1 u.2 t_table)) [0, 1, 2] [3] [1, 2, 3, 0] rfl rfl rfl rfl (by decide) (fun _ => rfl) rfl 0 10 rfl rfl rfl rfl hl.1 rfl (Nat.le_of_ble_eq_true rfl) dX11_findsOrbits_119 (fun r119 u H locs h hP hD hS => ?_)
              obtain ⟨t_h_119, t_orbit_119⟩ := u
              try dsimp only at h
              have hP : va_P G vwCl (w_X11_findsOrbits Y h_t B_t t_thrown t_n t_modulus t_rows t_strands t_letters t_listedMany t_listN t_listWhat t_h_119 t_orbit_119 t_table) H := hP
              have hD : va_D A (w_X11_findsOrbits Y h_t B_t t_thrown t_n t_modulus t_rows t_strands t_letters t_listedMany t_listN t_listWhat t_h_119 t_orbit_119 t_table) := hD
              exact hret r119 t_h_119 t_orbit_119 H locs ls _ hP hD hS h dX11_findsOrbits_122
            · have h := hf c9
              refine lv_iconst (v := 0) hx hb dX11_findsOrbits_33 (by decide) ?_
              refine lv_istore_n (lv' := [(2, .int (0 : Int32)), (0, .ref h_t), (1, .int x1)]) hx hb dX11_findsOrbits_34 rfl hl (by decide) rfl (fun ls hl => ?_)
              obtain ⟨I35, m35, hI35, hB35⟩ := h
              have L35 : ∀ (x1 : Int32) (I35 : Int32 → (Nat → Int32) → Prop) (m35 : Int32 → (Nat → Int32) → Nat), (∀ (x2 : Int32) (t_orbit : Nat → Int32), I35 x2 t_orbit → pX11_findsOrbits_35 t_n t_table R25 K t_h x1 x2 t_orbit (fun x2' t_orbit' => I35 x2' t_orbit' ∧ m35 x2' t_orbit' < m35 x2 t_orbit)) → ∀ (n : Nat) (x2 : Int32) (t_orbit : Nat → Int32) (H : Heap) (locs : List Loc) (ls : Array Slot), I35 x2 t_orbit → m35 x2 t_orbit < n → va_P G vwCl (w_X11_findsOrbits Y h_t B_t t_thrown t_n t_modulus t_rows t_strands t_letters t_listedMany t_listN t_listWhat t_h t_orbit t_table) H → va_D A (w_X11_findsOrbits Y h_t B_t t_thrown t_n t_modulus t_rows t_strands t_letters t_listedMany t_listN t_listWhat t_h t_orbit t_table) → va_S A s.heap H locs → lv_has ls 5 [(0, .ref h_t), (1, .int x1), (2, .int x2)] → W p l e R s m args below meth c H locs 0 0 Q (F0 m 35 ls []) := by
                intro x1 I35 m35 hB35 n
                induction n with
                | zero => intro x2 t_orbit H locs ls _ hm; exact absurd hm (Nat.not_lt_zero _)
                | succ n ih =>
                  intro x2 t_orbit H locs ls hI hm hP hD hS hl
                  obtain ⟨R35, h, rec35⟩ : ∃ R35 : Int32 → (Nat → Int32) → Prop, pX11_findsOrbits_35 t_n t_table R25 K t_h x1 x2 t_orbit R35 ∧ ∀ (x2 : Int32) (t_orbit : Nat → Int32) (H : Heap) (locs : List Loc) (ls : Array Slot), R35 x2 t_orbit → va_P G vwCl (w_X11_findsOrbits Y h_t B_t t_thrown t_n t_modulus t_rows t_strands t_letters t_listedMany t_listN t_listWhat t_h t_orbit t_table) H → va_D A (w_X11_findsOrbits Y h_t B_t t_thrown t_n t_modulus t_rows t_strands t_letters t_listedMany t_listN t_listWhat t_h t_orbit t_table) → va_S A s.heap H locs → lv_has ls 5 [(0, .ref h_t), (1, .int x1), (2, .int x2)] → W p l e R s m args below meth c H locs 0 0 Q (F0 m 35 ls []) := ⟨_, hB35 x2 t_orbit hI, fun x2 t_orbit H locs ls hh hP hD hS hl => ih x2 t_orbit H locs ls hh.1 (Nat.lt_of_lt_of_le hh.2 (Nat.le_of_lt_succ hm)) hP hD hS hl⟩
                  refine lv_iload_n hx hb dX11_findsOrbits_35 rfl (lv_at hl 2 rfl) ?_
                  refine lv_aload_n hx hb dX11_findsOrbits_36 rfl (lv_at hl 0 rfl) ?_
                  refine va_get (D := G) (ci := 10) (v := .int t_n) (C := RX11) (T := TX11) (N := 29) hx hb hts inX11 hown hK hP 0 rfl rfl 1 (by decide) hf9 (fun _ h9 => h9) rfl dX11_findsOrbits_37 ?_
                  obtain ⟨ht, hf⟩ := h
                  refine lv_icmp_ge (tgt := 108) hx hb dX11_findsOrbits_40 (by decide) (fun c9 => ?_) (fun c9 => ?_)
                  · have h := ht c9
                    refine lv_iinc (v := (x1 + 1)) (lv' := [(1, .int (x1 + 1)), (0, .ref h_t), (2, .int x2)]) hx hb dX11_findsOrbits_108 hl (k := 1) rfl rfl (by decide) rfl (fun ls hl => ?_)
                    refine lv_goto (tgt := 25) hx hb dX11_findsOrbits_111 (by decide) ?_
                    exact rec25 (x1 + 1) t_orbit H locs ls h hP hD hS (lv_sub hl [1, 0] rfl)
                  · have h := hf c9
                    refine lv_iconst (v := 0) hx hb dX11_findsOrbits_43 (by decide) ?_
                    refine lv_istore_n (lv' := [(3, .int (0 : Int32)), (0, .ref h_t), (1, .int x1), (2, .int x2)]) hx hb dX11_findsOrbits_44 rfl hl (by decide) rfl (fun ls hl => ?_)
                    obtain ⟨I45, m45, hI45, hB45⟩ := h
                    have L45 : ∀ (x2 : Int32) (I45 : Int32 → (Nat → Int32) → Prop) (m45 : Int32 → (Nat → Int32) → Nat), (∀ (x3 : Int32) (t_orbit : Nat → Int32), I45 x3 t_orbit → pX11_findsOrbits_45 t_n t_table R25 R35 K t_h x1 x2 x3 t_orbit (fun x3' t_orbit' => I45 x3' t_orbit' ∧ m45 x3' t_orbit' < m45 x3 t_orbit)) → ∀ (n : Nat) (x3 : Int32) (t_orbit : Nat → Int32) (H : Heap) (locs : List Loc) (ls : Array Slot), I45 x3 t_orbit → m45 x3 t_orbit < n → va_P G vwCl (w_X11_findsOrbits Y h_t B_t t_thrown t_n t_modulus t_rows t_strands t_letters t_listedMany t_listN t_listWhat t_h t_orbit t_table) H → va_D A (w_X11_findsOrbits Y h_t B_t t_thrown t_n t_modulus t_rows t_strands t_letters t_listedMany t_listN t_listWhat t_h t_orbit t_table) → va_S A s.heap H locs → lv_has ls 5 [(0, .ref h_t), (1, .int x1), (2, .int x2), (3, .int x3)] → W p l e R s m args below meth c H locs 0 0 Q (F0 m 45 ls []) := by
                      intro x2 I45 m45 hB45 n
                      induction n with
                      | zero => intro x3 t_orbit H locs ls _ hm; exact absurd hm (Nat.not_lt_zero _)
                      | succ n ih =>
                        intro x3 t_orbit H locs ls hI hm hP hD hS hl
                        obtain ⟨R45, h, rec45⟩ : ∃ R45 : Int32 → (Nat → Int32) → Prop, pX11_findsOrbits_45 t_n t_table R25 R35 K t_h x1 x2 x3 t_orbit R45 ∧ ∀ (x3 : Int32) (t_orbit : Nat → Int32) (H : Heap) (locs : List Loc) (ls : Array Slot), R45 x3 t_orbit → va_P G vwCl (w_X11_findsOrbits Y h_t B_t t_thrown t_n t_modulus t_rows t_strands t_letters t_listedMany t_listN t_listWhat t_h t_orbit t_table) H → va_D A (w_X11_findsOrbits Y h_t B_t t_thrown t_n t_modulus t_rows t_strands t_letters t_listedMany t_listN t_listWhat t_h t_orbit t_table) → va_S A s.heap H locs → lv_has ls 5 [(0, .ref h_t), (1, .int x1), (2, .int x2), (3, .int x3)] → W p l e R s m args below meth c H locs 0 0 Q (F0 m 45 ls []) := ⟨_, hB45 x3 t_orbit hI, fun x3 t_orbit H locs ls hh hP hD hS hl => ih x3 t_orbit H locs ls hh.1 (Nat.lt_of_lt_of_le hh.2 (Nat.le_of_lt_succ hm)) hP hD hS hl⟩
                        refine lv_iload_n hx hb dX11_findsOrbits_45 rfl (lv_at hl 3 rfl) ?_
                        refine lv_aload_n hx hb dX11_findsOrbits_46 rfl (lv_at hl 0 rfl) ?_
                        refine va_get (D := G) (ci := 10) (v := .int t_n) (C := RX11) (T := TX11) (N := 29) hx hb hts inX11 hown hK hP 0 rfl rfl 1 (by decide) hf9 (fun _ h9 => h9) rfl dX11_findsOrbits_47 ?_
                        obtain ⟨ht, hf⟩ := h
                        refine lv_icmp_ge (tgt := 102) hx hb dX11_findsOrbits_50 (by decide) (fun c9 => ?_) (fun c9 => ?_)
                        · have h := ht c9
                          refine lv_iinc (v := (x2 + 1)) (lv' := [(2, .int (x2 + 1)), (0, .ref h_t), (1, .int x1), (3, .int x3)]) hx hb dX11_findsOrbits_102 hl (k := 2) rfl rfl (by decide) rfl (fun ls hl => ?_)
                          refine lv_goto (tgt := 35) hx hb dX11_findsOrbits_105 (by decide) ?_
                          exact rec35 (x2 + 1) t_orbit H locs ls h hP hD hS (lv_sub hl [1, 2, 0] rfl)
                        · have h := hf c9
                          refine lv_aload_n hx hb dX11_findsOrbits_53 rfl (lv_at hl 0 rfl) ?_
                          refine va_get (D := G) (ci := 10) (v := .ref (B_t 13)) (C := RX11) (T := TX11) (N := 29) hx hb hts inX11 hown hK hP 0 rfl rfl 13 (by decide) hf44 (fun _ h9 => h9) rfl dX11_findsOrbits_54 ?_
                          refine lv_iload_n hx hb dX11_findsOrbits_57 rfl (lv_at hl 3 rfl) ?_
                          obtain ⟨hin, h⟩ := h
                          refine va_iald hx hb hK hP 2 0 rfl rfl hin dX11_findsOrbits_58 ?_
                          refine lv_aload_n hx hb dX11_findsOrbits_59 rfl (lv_at hl 0 rfl) ?_
                          refine va_get (D := G) (ci := 10) (v := .ref (B_t 13)) (C := RX11) (T := TX11) (N := 29) hx hb hts inX11 hown hK hP 0 rfl rfl 13 (by decide) hf44 (fun _ h9 => h9) rfl dX11_findsOrbits_60 ?_
                          refine lv_aload_n hx hb dX11_findsOrbits_63 rfl (lv_at hl 0 rfl) ?_
                          refine lv_iload_n hx hb dX11_findsOrbits_64 rfl (lv_at hl 2 rfl) ?_
                          refine lv_iload_n hx hb dX11_findsOrbits_65 rfl (lv_at hl 3 rfl) ?_
                          refine mc_iV ⟨hx, hb, hml, hown, hts⟩ hK hE hA hP hD hS (c_X11_by l G Y tF H.size h_t B_t t_thrown t_n t_modulus t_rows t_strands t_letters t_listedMany t_listN t_listWhat t_table x2 x3 h) (cwV 2 hts gX11_findsOrbits_X11_by rfl rfl rfl (by decide +kernel) ⟨Nat.le_trans (by decide) hRf, Nat.le_trans (by decide) hRl⟩) (fun u => (w_X11_findsOrbits Y h_t B_t t_thrown t_n t_modulus t_rows t_strands t_letters t_listedMany t_listN t_listWhat t_h t_orbit t_table)) [0, 3] [1, 2] [2, 0, 1, 3] rfl rfl rfl rfl (by decide) (fun _ => rfl) rfl 0 10 rfl rfl rfl rfl hl.1 rfl (Nat.le_of_ble_eq_true rfl) dX11_findsOrbits_66 (fun r66 u H locs h hP hD hS => ?_)
                          try dsimp only at h
                          have hP : va_P G vwCl (w_X11_findsOrbits Y h_t B_t t_thrown t_n t_modulus t_rows t_strands t_letters t_listedMany t_listN t_listWhat t_h t_orbit t_table) H := hP
                          have hD : va_D A (w_X11_findsOrbits Y h_t B_t t_thrown t_n t_modulus t_rows t_strands t_letters t_listedMany t_listN t_listWhat t_h t_orbit t_table) := hD
                          obtain ⟨hin, h⟩ := h
                          refine va_iald hx hb hK hP 2 0 rfl rfl hin dX11_findsOrbits_69 ?_
                          refine va_mmin hx hb (by rw [hml]; exact hl.1.symm) hown (hts (.methodLink RX11 156 Lib.Math.min.name) (by decide +kernel)) (hts (.static Lib.Math.min.name) (by decide +kernel)) (hts (.initialized "java/lang/Math") (by decide +kernel)) (hts (.code Lib.Math.min.name Lib.Math.min.code 2 (some .int)) (by decide +kernel)) (Nat.le_trans (by decide) hRf) (Nat.le_trans (by decide) hRl) (Nat.zero_le _) (Nat.zero_le _) dX11_findsOrbits_70 ?_
                          refine lv_istore (lv' := [(4, .int (if (t_orbit (Int32.toNatClampNeg r66)) < (t_orbit (Int32.toNatClampNeg x3)) then (t_orbit (Int32.toNatClampNeg r66)) else (t_orbit (Int32.toNatClampNeg x3)))), (0, .ref h_t), (1, .int x1), (2, .int x2), (3, .int x3)]) hx hb dX11_findsOrbits_73 hl (by decide) rfl (fun ls hl => ?_)
                          refine lv_aload_n hx hb dX11_findsOrbits_75 rfl (lv_at hl 1 rfl) ?_
                          refine va_get (D := G) (ci := 10) (v := .ref (B_t 13)) (C := RX11) (T := TX11) (N := 29) hx hb hts inX11 hown hK hP 0 rfl rfl 13 (by decide) hf44 (fun _ h9 => h9) rfl dX11_findsOrbits_76 ?_
                          refine lv_iload_n hx hb dX11_findsOrbits_79 rfl (lv_at hl 4 rfl) ?_
                          refine lv_iload hx hb dX11_findsOrbits_80 (lv_at hl 0 rfl) ?_
                          obtain ⟨hin, h⟩ := h
                          refine va_iast hx hb hK hP hD hS 2 0 rfl rfl hin dX11_findsOrbits_82 (fun H locs hP hD hS => ?_)
                          have hP : va_P G vwCl (w_X11_findsOrbits Y h_t B_t t_thrown t_n t_modulus t_rows t_strands t_letters t_listedMany t_listN t_listWhat t_h (upd t_orbit (Int32.toNatClampNeg x3) (if (t_orbit (Int32.toNatClampNeg r66)) < (t_orbit (Int32.toNatClampNeg x3)) then (t_orbit (Int32.toNatClampNeg r66)) else (t_orbit (Int32.toNatClampNeg x3)))) t_table) H := hP
                          have hD : va_D A (w_X11_findsOrbits Y h_t B_t t_thrown t_n t_modulus t_rows t_strands t_letters t_listedMany t_listN t_listWhat t_h (upd t_orbit (Int32.toNatClampNeg x3) (if (t_orbit (Int32.toNatClampNeg r66)) < (t_orbit (Int32.toNatClampNeg x3)) then (t_orbit (Int32.toNatClampNeg r66)) else (t_orbit (Int32.toNatClampNeg x3)))) t_table) := hD
                          refine lv_aload_n hx hb dX11_findsOrbits_83 rfl (lv_at hl 1 rfl) ?_
                          refine va_get (D := G) (ci := 10) (v := .ref (B_t 13)) (C := RX11) (T := TX11) (N := 29) hx hb hts inX11 hown hK hP 0 rfl rfl 13 (by decide) hf44 (fun _ h9 => h9) rfl dX11_findsOrbits_84 ?_
                          refine lv_aload_n hx hb dX11_findsOrbits_87 rfl (lv_at hl 1 rfl) ?_
                          refine lv_iload_n hx hb dX11_findsOrbits_88 rfl (lv_at hl 3 rfl) ?_
                          refine lv_iload_n hx hb dX11_findsOrbits_89 rfl (lv_at hl 4 rfl) ?_
                          refine mc_iV ⟨hx, hb, hml, hown, hts⟩ hK hE hA hP hD hS (c_X11_by l G Y tF H.size h_t B_t t_thrown t_n t_modulus t_rows t_strands t_letters t_listedMany t_listN t_listWhat t_table x2 x3 h) (cwV 2 hts gX11_findsOrbits_X11_by rfl rfl rfl (by decide +kernel) ⟨Nat.le_trans (by decide) hRf, Nat.le_trans (by decide) hRl⟩) (fun u => (w_X11_findsOrbits Y h_t B_t t_thrown t_n t_modulus t_rows t_strands t_letters t_listedMany t_listN t_listWhat t_h (upd t_orbit (Int32.toNatClampNeg x3) (if (t_orbit (Int32.toNatClampNeg r66)) < (t_orbit (Int32.toNatClampNeg x3)) then (t_orbit (Int32.toNatClampNeg r66)) else (t_orbit (Int32.toNatClampNeg x3)))) t_table)) [0, 3] [1, 2] [2, 0, 1, 3] rfl rfl rfl rfl (by decide) (fun _ => rfl) rfl 0 10 rfl rfl rfl rfl hl.1 rfl (Nat.le_of_ble_eq_true rfl) dX11_findsOrbits_90 (fun r90 u H locs h hP hD hS => ?_)
                          try dsimp only at h
                          have hP : va_P G vwCl (w_X11_findsOrbits Y h_t B_t t_thrown t_n t_modulus t_rows t_strands t_letters t_listedMany t_listN t_listWhat t_h (upd t_orbit (Int32.toNatClampNeg x3) (if (t_orbit (Int32.toNatClampNeg r66)) < (t_orbit (Int32.toNatClampNeg x3)) then (t_orbit (Int32.toNatClampNeg r66)) else (t_orbit (Int32.toNatClampNeg x3)))) t_table) H := hP
                          have hD : va_D A (w_X11_findsOrbits Y h_t B_t t_thrown t_n t_modulus t_rows t_strands t_letters t_listedMany t_listN t_listWhat t_h (upd t_orbit (Int32.toNatClampNeg x3) (if (t_orbit (Int32.toNatClampNeg r66)) < (t_orbit (Int32.toNatClampNeg x3)) then (t_orbit (Int32.toNatClampNeg r66)) else (t_orbit (Int32.toNatClampNeg x3)))) t_table) := hD
                          refine lv_iload hx hb dX11_findsOrbits_93 (lv_at hl 0 rfl) ?_
                          obtain ⟨hin, h⟩ := h
                          refine va_iast hx hb hK hP hD hS 2 0 rfl rfl hin dX11_findsOrbits_95 (fun H locs hP hD hS => ?_)
                          have hP : va_P G vwCl (w_X11_findsOrbits Y h_t B_t t_thrown t_n t_modulus t_rows t_strands t_letters t_listedMany t_listN t_listWhat t_h (upd (upd t_orbit (Int32.toNatClampNeg x3) (if (t_orbit (Int32.toNatClampNeg r66)) < (t_orbit (Int32.toNatClampNeg x3)) then (t_orbit (Int32.toNatClampNeg r66)) else (t_orbit (Int32.toNatClampNeg x3)))) (Int32.toNatClampNeg r90) (if (t_orbit (Int32.toNatClampNeg r66)) < (t_orbit (Int32.toNatClampNeg x3)) then (t_orbit (Int32.toNatClampNeg r66)) else (t_orbit (Int32.toNatClampNeg x3)))) t_table) H := hP
                          have hD : va_D A (w_X11_findsOrbits Y h_t B_t t_thrown t_n t_modulus t_rows t_strands t_letters t_listedMany t_listN t_listWhat t_h (upd (upd t_orbit (Int32.toNatClampNeg x3) (if (t_orbit (Int32.toNatClampNeg r66)) < (t_orbit (Int32.toNatClampNeg x3)) then (t_orbit (Int32.toNatClampNeg r66)) else (t_orbit (Int32.toNatClampNeg x3)))) (Int32.toNatClampNeg r90) (if (t_orbit (Int32.toNatClampNeg r66)) < (t_orbit (Int32.toNatClampNeg x3)) then (t_orbit (Int32.toNatClampNeg r66)) else (t_orbit (Int32.toNatClampNeg x3)))) t_table) := hD
                          refine lv_iinc (v := (x3 + 1)) (lv' := [(3, .int (x3 + 1)), (4, .int (if (t_orbit (Int32.toNatClampNeg r66)) < (t_orbit (Int32.toNatClampNeg x3)) then (t_orbit (Int32.toNatClampNeg r66)) else (t_orbit (Int32.toNatClampNeg x3)))), (0, .ref h_t), (1, .int x1), (2, .int x2)]) hx hb dX11_findsOrbits_96 hl (k := 4) rfl rfl (by decide) rfl (fun ls hl => ?_)
                          refine lv_goto (tgt := 45) hx hb dX11_findsOrbits_99 (by decide) ?_
                          exact rec45 (x3 + 1) (upd (upd t_orbit (Int32.toNatClampNeg x3) (if (t_orbit (Int32.toNatClampNeg r66)) < (t_orbit (Int32.toNatClampNeg x3)) then (t_orbit (Int32.toNatClampNeg r66)) else (t_orbit (Int32.toNatClampNeg x3)))) (Int32.toNatClampNeg r90) (if (t_orbit (Int32.toNatClampNeg r66)) < (t_orbit (Int32.toNatClampNeg x3)) then (t_orbit (Int32.toNatClampNeg r66)) else (t_orbit (Int32.toNatClampNeg x3)))) H locs ls h hP hD hS (lv_sub hl [2, 3, 4, 0] rfl)
                    exact L45 x2 I45 m45 hB45 _ (0 : Int32) t_orbit H locs ls hI45 (Nat.lt_succ_self _) hP hD hS (lv_sub hl [1, 2, 3, 0] rfl)
              exact L35 x1 I35 m35 hB35 _ (0 : Int32) t_orbit H locs ls hI35 (Nat.lt_succ_self _) hP hD hS (lv_sub hl [1, 2, 0] rfl)
        exact L25 t_h I25 m25 hB25 _ (0 : Int32) t_orbit H locs ls hI25 (Nat.lt_succ_self _) hP hD hS (lv_sub hl [1, 0] rfl)
      · have h := hf c9
        refine lv_aload_n hx hb dX11_findsOrbits_10 rfl (lv_at hl 0 rfl) ?_
        refine va_get (D := G) (ci := 10) (v := .ref (B_t 13)) (C := RX11) (T := TX11) (N := 29) hx hb hts inX11 hown hK hP 0 rfl rfl 13 (by decide) hf44 (fun _ h9 => h9) rfl dX11_findsOrbits_11 ?_
        refine lv_iload_n hx hb dX11_findsOrbits_14 rfl (lv_at hl 1 rfl) ?_
        refine lv_iload_n hx hb dX11_findsOrbits_15 rfl (lv_at hl 1 rfl) ?_
        obtain ⟨hin, h⟩ := h
        refine va_iast hx hb hK hP hD hS 2 0 rfl rfl hin dX11_findsOrbits_16 (fun H locs hP hD hS => ?_)
        have hP : va_P G vwCl (w_X11_findsOrbits Y h_t B_t t_thrown t_n t_modulus t_rows t_strands t_letters t_listedMany t_listN t_listWhat t_h (upd t_orbit (Int32.toNatClampNeg x1) x1) t_table) H := hP
        have hD : va_D A (w_X11_findsOrbits Y h_t B_t t_thrown t_n t_modulus t_rows t_strands t_letters t_listedMany t_listN t_listWhat t_h (upd t_orbit (Int32.toNatClampNeg x1) x1) t_table) := hD
        refine lv_iinc (v := (x1 + 1)) (lv' := [(1, .int (x1 + 1)), (0, .ref h_t)]) hx hb dX11_findsOrbits_17 hl (k := 1) rfl rfl (by decide) rfl (fun ls hl => ?_)
        refine lv_goto (tgt := 2) hx hb dX11_findsOrbits_20 (by decide) ?_
        exact rec2 (x1 + 1) (upd t_orbit (Int32.toNatClampNeg x1) x1) H locs ls h hP hD hS (lv_sub hl [1, 0] rfl)
  exact L2 t_h I2 m2 hB2 _ (0 : Int32) t_orbit H locs ls hI2 (Nat.lt_succ_self _) hP hD hS (lv_sub hl [1, 0] rfl)

set_option maxHeartbeats 4000000 in
set_option maxRecDepth 100000 in
theorem c_X11_findsOrbits (l : Launch) (G : va_G) (Y : Nat → ClassId) (tF sz : Nat) (h_t : Nat) (B_t : Nat → Nat) (t_thrown : Int32) (t_n : Int32) (t_modulus : Int32) (t_rows : Int32) (t_strands : Int32) (t_letters : Int32) (t_listedMany : Int32) (t_listN : Int32) (t_listWhat : Int32) (t_h : Nat → Int32) (t_orbit : Nat → Int32) (t_table : Nat → Int32) {K : Int32 → (Nat → Int32) → (Nat → Int32) → Prop} (h : pX11_findsOrbits t_n t_h t_orbit t_table K) : Met l yX11_findsOrbits wsX11_findsOrbits ({ frames := 1, cells := 0, slots := 0, locals := 24 }) (PcM G Y tF sz (w_X11_findsOrbits Y h_t B_t t_thrown t_n t_modulus t_rows t_strands t_letters t_listedMany t_listN t_listWhat t_h t_orbit t_table) [.ref h_t]) (va_Qi (fun (r : Int32) (u : (Nat → Int32) × (Nat → Int32)) => K r u.1 u.2) (fun u t => BM G Y (va_A (w_X11_findsOrbits Y h_t B_t t_thrown t_n t_modulus t_rows t_strands t_letters t_listedMany t_listN t_listWhat t_h t_orbit t_table) sz) (w_X11_findsOrbits Y h_t B_t t_thrown t_n t_modulus t_rows t_strands t_letters t_listedMany t_listN t_listWhat u.1 u.2 t_table) t) (va_A (w_X11_findsOrbits Y h_t B_t t_thrown t_n t_modulus t_rows t_strands t_letters t_listedMany t_listN t_listWhat t_h t_orbit t_table) sz)) 0 0 (va_A (w_X11_findsOrbits Y h_t B_t t_thrown t_n t_modulus t_rows t_strands t_letters t_listedMany t_listN t_listWhat t_h t_orbit t_table) sz) := by
  refine Met.ofW (cc := cX11_findsOrbits) (maxL := 5) (ret := (some .int)) (by decide +kernel) rfl ?_
  intro p e s m args below meth c s₁ B hml hv
  obtain ⟨rfl, hsz, hP, hK, hD0, hE⟩ := hv
  have hts := atoms_spec (ws := wsX11_findsOrbits) B.pre
  have hown : s.vm.findClass RX11 = some m.cls := findClass_of_methodNamed B.named
  have hlocks := B.notSynchronized
  subst hsz
  have hD := hD0.self (sz := s.heap.size)
  exact wk_X11_findsOrbits h_t B_t t_thrown t_n t_modulus t_rows t_strands t_letters t_listedMany t_listN t_listWhat t_h t_orbit t_table B.exec B.bytes hml hown hts hK hE (fun q h => Or.inr h) (Nat.le_refl _) (Nat.le_refl _) (fun r t_h t_orbit H locs ls pc hP hD hS hk hd => W.iret (v := r) B.exec B.bytes B.returns (fun t ht hW => ⟨⟨r, (t_h, t_orbit), rfl, hk, by rw [ht]; exact hP, va_K.moved hW.alike hK, hD⟩, hS.F ht⟩) hS.2.2 hd) hP hD h

abbrev w_X11_sameRows (Y : Nat → ClassId) (h_t : Nat) (B_t : Nat → Nat) (t_thrown : Int32) (t_n : Int32) (t_modulus : Int32) (t_rows : Int32) (t_strands : Int32) (t_letters : Int32) (t_listedMany : Int32) (t_listN : Int32) (t_listWhat : Int32) (t_table : Nat → Int32) : va_W := [(h_t, .inr (10, [.int t_thrown, .int t_n, .ref (B_t 2), .int t_modulus, .ref (B_t 4), .ref (B_t 5), .ref (B_t 6), .ref (B_t 7), .ref (B_t 8), .ref (B_t 9), .ref (B_t 10), .int t_rows, .ref (B_t 12), .ref (B_t 13), .ref (B_t 14), .ref (B_t 15), .ref (B_t 16), .ref (B_t 17), .ref (B_t 18), .ref (B_t 19), .int t_strands, .int t_letters, .ref (B_t 22), .ref (B_t 23), .ref (B_t 24), .ref (B_t 25), .int t_listedMany, .int t_listN, .int t_listWhat])), ((B_t 2), .inl (Y 0, 64, .inl t_table))]

set_option maxHeartbeats 4000000 in
set_option maxRecDepth 100000 in
theorem wk_X11_sameRows {p : Program} {l : Launch} {e : Env} {R : Room} {s : State} {m : MethodId} {args : Array Value} {below : List Frame} {meth : Method} {c : Code} {Q : State → Prop} {G : va_G} {Y : Nat → ClassId} {tF : Nat} {A : Nat → Prop} (h_t : Nat) (B_t : Nat → Nat) (t_thrown : Int32) (t_n : Int32) (t_modulus : Int32) (t_rows : Int32) (t_strands : Int32) (t_letters : Int32) (t_listedMany : Int32) (t_listN : Int32) (t_listWhat : Int32) (t_table : Nat → Int32) (x1 : Int32) (x2 : Int32) {K : Int32 → Prop} (hx : p.tables.exec = Jvm.exec) (hb : c.code = cX11_sameRows) (hml : c.maxLocals = 5) (hown : s.vm.findClass RX11 = some m.cls) (hts : ∀ w ∈ wsX11_sameRows, w.before args s = true) (hK : va_K G vwCl (tyL Y) s) (hE : Ev A tF s) (hA : ∀ q, s.heap.size ≤ q → A q) (hRf : 1 ≤ R.frames) (hRl : 22 ≤ R.locals) (hret : ∀ (r : Int32)  (H : Heap) (locs : List Loc) (ls : Array Slot) (pc : Nat), va_P G vwCl (w_X11_sameRows Y h_t B_t t_thrown t_n t_modulus t_rows t_strands t_letters t_listedMany t_listN t_listWhat t_table) H → va_D A (w_X11_sameRows Y h_t B_t t_thrown t_n t_modulus t_rows t_strands t_letters t_listedMany t_listN t_listWhat t_table) → va_S A s.heap H locs → zb r → K r → decode cX11_sameRows pc = .ok (.ireturn, 1) → W p l e R s m args below meth c H locs 0 0 Q (F0 m pc ls [.int r])) (hP : va_P G vwCl (w_X11_sameRows Y h_t B_t t_thrown t_n t_modulus t_rows t_strands t_letters t_listedMany t_listN t_listWhat t_table) s.heap) (hD : va_D A (w_X11_sameRows Y h_t B_t t_thrown t_n t_modulus t_rows t_strands t_letters t_listedMany t_listN t_listWhat t_table)) (h : pX11_sameRows t_n t_table x1 x2 K) : W p l e R s m args below meth c s.heap [] 0 0 Q (entryFrame m ([.ref h_t, .int x1, .int x2] : List Value).toArray 5) := by
  have inX11 : ∀ w ∈ u_ws RX11 TX11 29, w ∈ wsX11_sameRows := by decide +kernel
  have hf9 := hts (.fieldLink RX11 9 "RackBenchModel" "n" "I") (by decide +kernel)
  have hl := lv_entry ([.ref h_t, .int x1, .int x2]) (n := 5) (Nat.le_of_ble_eq_true rfl)
  rw [lg_entry_eq]
  generalize (lg_sl ([.ref h_t, .int x1, .int x2]) ++ List.replicate (5 - (lg_sl ([.ref h_t, .int x1, .int x2])).length) Slot.unset).toArray = ls at hl ⊢
  have hl : lv_has ls 5 [(0, .ref h_t), (1, .int x1), (2, .int x2)] := hl
  generalize hH0 : s.heap = H at hP ⊢
  have hS : va_S A s.heap H [] := by rw [← hH0]; exact va_S.rf
  clear hH0
  generalize ([] : List Loc) = locs at hS ⊢
  refine lv_iconst (v := 1) hx hb dX11_sameRows_0 (by decide) ?_
  refine lv_istore_n (lv' := [(3, .int (1 : Int32)), (0, .ref h_t), (1, .int x1), (2, .int x2)]) hx hb dX11_sameRows_1 rfl hl (by decide) rfl (fun ls hl => ?_)
  refine lv_iconst (v := 0) hx hb dX11_sameRows_2 (by decide) ?_
  refine lv_istore (lv' := [(4, .int (0 : Int32)), (3, .int (1 : Int32)), (0, .ref h_t), (1, .int x1), (2, .int x2)]) hx hb dX11_sameRows_3 hl (by decide) rfl (fun ls hl => ?_)
  obtain ⟨I5, m5, hI5, hB5⟩ := h
  have L5 : ∀ (x1 : Int32) (x2 : Int32) (I5 : Int32 → Int32 → Prop) (m5 : Int32 → Int32 → Nat), (∀ (x3 : Int32) (x4 : Int32), I5 x3 x4 → pX11_sameRows_5 t_n t_table K x1 x2 x3 x4 (fun x3' x4' => I5 x3' x4' ∧ m5 x3' x4' < m5 x3 x4)) → ∀ (n : Nat) (x3 : Int32) (x4 : Int32) (H : Heap) (locs : List Loc) (ls : Array Slot), I5 x3 x4 → m5 x3 x4 < n → va_P G vwCl (w_X11_sameRows Y h_t B_t t_thrown t_n t_modulus t_rows t_strands t_letters t_listedMany t_listN t_listWhat t_table) H → va_D A (w_X11_sameRows Y h_t B_t t_thrown t_n t_modulus t_rows t_strands t_letters t_listedMany t_listN t_listWhat t_table) → va_S A s.heap H locs → lv_has ls 5 [(0, .ref h_t), (1, .int x1), (2, .int x2), (3, .int x3), (4, .int x4)] → W p l e R s m args below meth c H locs 0 0 Q (F0 m 5 ls []) := by
    intro x1 x2 I5 m5 hB5 n
    induction n with
    | zero => intro x3 x4 H locs ls _ hm; exact absurd hm (Nat.not_lt_zero _)
    | succ n ih =>
      intro x3 x4 H locs ls hI hm hP hD hS hl
      obtain ⟨R5, h, rec5⟩ : ∃ R5 : Int32 → Int32 → Prop, pX11_sameRows_5 t_n t_table K x1 x2 x3 x4 R5 ∧ ∀ (x3 : Int32) (x4 : Int32) (H : Heap) (locs : List Loc) (ls : Array Slot), R5 x3 x4 → va_P G vwCl (w_X11_sameRows Y h_t B_t t_thrown t_n t_modulus t_rows t_strands t_letters t_listedMany t_listN t_listWhat t_table) H → va_D A (w_X11_sameRows Y h_t B_t t_thrown t_n t_modulus t_rows t_strands t_letters t_listedMany t_listN t_listWhat t_table) → va_S A s.heap H locs → lv_has ls 5 [(0, .ref h_t), (1, .int x1), (2, .int x2), (3, .int x3), (4, .int x4)] → W p l e R s m args below meth c H locs 0 0 Q (F0 m 5 ls []) := ⟨_, hB5 x3 x4 hI, fun x3 x4 H locs ls hh hP hD hS hl => ih x3 x4 H locs ls hh.1 (Nat.lt_of_lt_of_le hh.2 (Nat.le_of_lt_succ hm)) hP hD hS hl⟩
      have J39 : ∀ (x4 : Int32) (H : Heap) (locs : List Loc) (ls : Array Slot), pX11_sameRows_39 t_n t_table R5 K x1 x2 x4 → va_P G vwCl (w_X11_sameRows Y h_t B_t t_thrown t_n t_modulus t_rows t_strands t_letters t_listedMany t_listN t_listWhat t_table) H → va_D A (w_X11_sameRows Y h_t B_t t_thrown t_n t_modulus t_rows t_strands t_letters t_listedMany t_listN t_listWhat t_table) → va_S A s.heap H locs → lv_has ls 5 [(0, .ref h_t), (1, .int x1), (2, .int x2), (4, .int x4)] → W p l e R s m args below meth c H locs 0 0 Q (F0 m 39 ls []) := by
        intro x4 H locs ls h hP hD hS hl
        refine lv_iconst (v := 0) hx hb dX11_sameRows_39 (by decide) ?_
        refine lv_istore_n (lv' := [(3, .int (0 : Int32)), (0, .ref h_t), (1, .int x1), (2, .int x2), (4, .int x4)]) hx hb dX11_sameRows_40 rfl hl (by decide) rfl (fun ls hl => ?_)
        refine lv_iinc (v := (x4 + 1)) (lv' := [(4, .int (x4 + 1)), (3, .int (0 : Int32)), (0, .ref h_t), (1, .int x1), (2, .int x2)]) hx hb dX11_sameRows_41 hl (k := 4) rfl rfl (by decide) rfl (fun ls hl => ?_)
        refine lv_goto (tgt := 5) hx hb dX11_sameRows_44 (by decide) ?_
        exact rec5 (0 : Int32) (x4 + 1) H locs ls h hP hD hS (lv_sub hl [2, 3, 4, 1, 0] rfl)
      refine lv_iload hx hb dX11_sameRows_5 (lv_at hl 4 rfl) ?_
      refine lv_aload_n hx hb dX11_sameRows_7 rfl (lv_at hl 0 rfl) ?_
      refine va_get (D := G) (ci := 10) (v := .int t_n) (C := RX11) (T := TX11) (N := 29) hx hb hts inX11 hown hK hP 0 rfl rfl 1 (by decide) hf9 (fun _ h9 => h9) rfl dX11_sameRows_8 ?_
      obtain ⟨ht, hf⟩ := h
      refine lv_icmp_ge (tgt := 47) hx hb dX11_sameRows_11 (by decide) (fun c9 => ?_) (fun c9 => ?_)
      · have h := ht c9
        refine lv_iload_n hx hb dX11_sameRows_47 rfl (lv_at hl 3 rfl) ?_
        obtain ⟨hz, h⟩ := h
        exact hret x3  H locs ls _ hP hD hS hz h dX11_sameRows_48
      · have h := hf c9
        refine lv_iload_n hx hb dX11_sameRows_14 rfl (lv_at hl 3 rfl) ?_
        obtain ⟨ht, hf⟩ := h
        refine lv_if_eq (tgt := 39) hx hb dX11_sameRows_15 (by decide) (fun c9 => ?_) (fun c9 => ?_)
        · have h := ht c9
          exact J39 x4 H locs ls h hP hD hS (lv_sub hl [0, 1, 2, 4] rfl)
        · have h := hf c9
          refine lv_aload_n hx hb dX11_sameRows_18 rfl (lv_at hl 0 rfl) ?_
          refine lv_iload_n hx hb dX11_sameRows_19 rfl (lv_at hl 1 rfl) ?_
          refine lv_iload hx hb dX11_sameRows_20 (lv_at hl 4 rfl) ?_
          refine mc_iV ⟨hx, hb, hml, hown, hts⟩ hK hE hA hP hD hS (c_X11_by l G Y tF H.size h_t B_t t_thrown t_n t_modulus t_rows t_strands t_letters t_listedMany t_listN t_listWhat t_table x1 x4 h) (cwV 2 hts gX11_sameRows_X11_by rfl rfl rfl (by decide +kernel) ⟨Nat.le_trans (by decide) hRf, Nat.le_trans (by decide) hRl⟩) (fun u => (w_X11_sameRows Y h_t B_t t_thrown t_n t_modulus t_rows t_strands t_letters t_listedMany t_listN t_listWhat t_table)) [0, 1] [] [0, 1] rfl rfl rfl rfl (by decide) (fun _ => rfl) rfl 0 10 rfl rfl rfl rfl hl.1 rfl (Nat.le_of_ble_eq_true rfl) dX11_sameRows_22 (fun r22 u H locs h hP hD hS => ?_)
          try dsimp only at h
          have hP : va_P G vwCl (w_X11_sameRows Y h_t B_t t_thrown t_n t_modulus t_rows t_strands t_letters t_listedMany t_listN t_listWhat t_table) H := hP
          have hD : va_D A (w_X11_sameRows Y h_t B_t t_thrown t_n t_modulus t_rows t_strands t_letters t_listedMany t_listN t_listWhat t_table) := hD
          refine lv_aload_n hx hb dX11_sameRows_25 rfl (lv_at hl 0 rfl) ?_
          refine lv_iload_n hx hb dX11_sameRows_26 rfl (lv_at hl 2 rfl) ?_
          refine lv_iload hx hb dX11_sameRows_27 (lv_at hl 4 rfl) ?_
          refine mc_iV ⟨hx, hb, hml, hown, hts⟩ hK hE hA hP hD hS (c_X11_by l G Y tF H.size h_t B_t t_thrown t_n t_modulus t_rows t_strands t_letters t_listedMany t_listN t_listWhat t_table x2 x4 h) (cwV 2 hts gX11_sameRows_X11_by rfl rfl rfl (by decide +kernel) ⟨Nat.le_trans (by decide) hRf, Nat.le_trans (by decide) hRl⟩) (fun u => (w_X11_sameRows Y h_t B_t t_thrown t_n t_modulus t_rows t_strands t_letters t_listedMany t_listN t_listWhat t_table)) [0, 1] [] [0, 1] rfl rfl rfl rfl (by decide) (fun _ => rfl) rfl 0 10 rfl rfl rfl rfl hl.1 rfl (Nat.le_of_ble_eq_true rfl) dX11_sameRows_29 (fun r29 u H locs h hP hD hS => ?_)
          try dsimp only at h
          have hP : va_P G vwCl (w_X11_sameRows Y h_t B_t t_thrown t_n t_modulus t_rows t_strands t_letters t_listedMany t_listN t_listWhat t_table) H := hP
          have hD : va_D A (w_X11_sameRows Y h_t B_t t_thrown t_n t_modulus t_rows t_strands t_letters t_listedMany t_listN t_listWhat t_table) := hD
          obtain ⟨ht, hf⟩ := h
          refine lv_icmp_ne (tgt := 39) hx hb dX11_sameRows_32 (by decide) (fun c9 => ?_) (fun c9 => ?_)
          · have h := ht c9
            exact J39 x4 H locs ls h hP hD hS (lv_sub hl [0, 1, 2, 4] rfl)
          · have h := hf c9
            refine lv_iconst (v := 1) hx hb dX11_sameRows_35 (by decide) ?_
            refine lv_goto (tgt := 40) hx hb dX11_sameRows_36 (by decide) ?_
            refine lv_istore_n (lv' := [(3, .int (1 : Int32)), (0, .ref h_t), (1, .int x1), (2, .int x2), (4, .int x4)]) hx hb dX11_sameRows_40 rfl hl (by decide) rfl (fun ls hl => ?_)
            refine lv_iinc (v := (x4 + 1)) (lv' := [(4, .int (x4 + 1)), (3, .int (1 : Int32)), (0, .ref h_t), (1, .int x1), (2, .int x2)]) hx hb dX11_sameRows_41 hl (k := 4) rfl rfl (by decide) rfl (fun ls hl => ?_)
            refine lv_goto (tgt := 5) hx hb dX11_sameRows_44 (by decide) ?_
            exact rec5 (1 : Int32) (x4 + 1) H locs ls h hP hD hS (lv_sub hl [2, 3, 4, 1, 0] rfl)
  exact L5 x1 x2 I5 m5 hB5 _ (1 : Int32) (0 : Int32) H locs ls hI5 (Nat.lt_succ_self _) hP hD hS (lv_sub hl [2, 3, 4, 1, 0] rfl)

set_option maxHeartbeats 4000000 in
set_option maxRecDepth 100000 in
theorem c_X11_sameRows (l : Launch) (G : va_G) (Y : Nat → ClassId) (tF sz : Nat) (h_t : Nat) (B_t : Nat → Nat) (t_thrown : Int32) (t_n : Int32) (t_modulus : Int32) (t_rows : Int32) (t_strands : Int32) (t_letters : Int32) (t_listedMany : Int32) (t_listN : Int32) (t_listWhat : Int32) (t_table : Nat → Int32) (x1 : Int32) (x2 : Int32) {K : Int32 → Prop} (h : pX11_sameRows t_n t_table x1 x2 K) : Met l yX11_sameRows wsX11_sameRows ({ frames := 1, cells := 0, slots := 0, locals := 22 }) (PcM G Y tF sz (w_X11_sameRows Y h_t B_t t_thrown t_n t_modulus t_rows t_strands t_letters t_listedMany t_listN t_listWhat t_table) [.ref h_t, .int x1, .int x2]) (va_Qi (fun (r : Int32) (u : Unit) => K r ) (fun u t => BM G Y (va_A (w_X11_sameRows Y h_t B_t t_thrown t_n t_modulus t_rows t_strands t_letters t_listedMany t_listN t_listWhat t_table) sz) (w_X11_sameRows Y h_t B_t t_thrown t_n t_modulus t_rows t_strands t_letters t_listedMany t_listN t_listWhat t_table) t) (va_A (w_X11_sameRows Y h_t B_t t_thrown t_n t_modulus t_rows t_strands t_letters t_listedMany t_listN t_listWhat t_table) sz)) 0 0 (va_A (w_X11_sameRows Y h_t B_t t_thrown t_n t_modulus t_rows t_strands t_letters t_listedMany t_listN t_listWhat t_table) sz) := by
  refine Met.ofW (cc := cX11_sameRows) (maxL := 5) (ret := (some .boolean)) (by decide +kernel) rfl ?_
  intro p e s m args below meth c s₁ B hml hv
  obtain ⟨rfl, hsz, hP, hK, hD0, hE⟩ := hv
  have hts := atoms_spec (ws := wsX11_sameRows) B.pre
  have hown : s.vm.findClass RX11 = some m.cls := findClass_of_methodNamed B.named
  have hlocks := B.notSynchronized
  subst hsz
  have hD := hD0.self (sz := s.heap.size)
  exact wk_X11_sameRows h_t B_t t_thrown t_n t_modulus t_rows t_strands t_letters t_listedMany t_listN t_listWhat t_table x1 x2 B.exec B.bytes hml hown hts hK hE (fun q h => Or.inr h) (Nat.le_refl _) (Nat.le_refl _) (fun r  H locs ls pc hP hD hS hz hk hd => W.zret (v := r) B.exec B.bytes B.returns hz.n (fun t ht hW => ⟨⟨r, (), rfl, hk, by rw [ht]; exact hP, va_K.moved hW.alike hK, hD⟩, hS.F ht⟩) hS.2.2 hd) hP hD h

abbrev w_X11_is (Y : Nat → ClassId) (h_t : Nat) (B_t : Nat → Nat) (t_thrown : Int32) (t_n : Int32) (t_modulus : Int32) (t_rows : Int32) (t_strands : Int32) (t_letters : Int32) (t_listedMany : Int32) (t_listN : Int32) (t_listWhat : Int32) (t_h : Nat → Int32) (t_orbit : Nat → Int32) (t_table : Nat → Int32) : va_W := [(h_t, .inr (10, [.int t_thrown, .int t_n, .ref (B_t 2), .int t_modulus, .ref (B_t 4), .ref (B_t 5), .ref (B_t 6), .ref (B_t 7), .ref (B_t 8), .ref (B_t 9), .ref (B_t 10), .int t_rows, .ref (B_t 12), .ref (B_t 13), .ref (B_t 14), .ref (B_t 15), .ref (B_t 16), .ref (B_t 17), .ref (B_t 18), .ref (B_t 19), .int t_strands, .int t_letters, .ref (B_t 22), .ref (B_t 23), .ref (B_t 24), .ref (B_t 25), .int t_listedMany, .int t_listN, .int t_listWhat])), ((B_t 7), .inl (Y 0, 8, .inl t_h)), ((B_t 13), .inl (Y 0, 8, .inl t_orbit)), ((B_t 2), .inl (Y 0, 64, .inl t_table))]

set_option maxHeartbeats 4000000 in
set_option maxRecDepth 100000 in
theorem wk_X11_is {p : Program} {l : Launch} {e : Env} {R : Room} {s : State} {m : MethodId} {args : Array Value} {below : List Frame} {meth : Method} {c : Code} {Q : State → Prop} {G : va_G} {Y : Nat → ClassId} {tF : Nat} {A : Nat → Prop} (h_t : Nat) (B_t : Nat → Nat) (t_thrown : Int32) (t_n : Int32) (t_modulus : Int32) (t_rows : Int32) (t_strands : Int32) (t_letters : Int32) (t_listedMany : Int32) (t_listN : Int32) (t_listWhat : Int32) (t_h : Nat → Int32) (t_orbit : Nat → Int32) (t_table : Nat → Int32) (x1 : Int32) {K : Int32 → Int32 → (Nat → Int32) → (Nat → Int32) → Prop} (hx : p.tables.exec = Jvm.exec) (hb : c.code = cX11_is) (hml : c.maxLocals = 9) (hown : s.vm.findClass RX11 = some m.cls) (hts : ∀ w ∈ wsX11_is, w.before args s = true) (hK : va_K G vwCl (tyL Y) s) (hE : Ev A tF s) (hA : ∀ q, s.heap.size ≤ q → A q) (hRf : 3 ≤ R.frames) (hRl : 65 ≤ R.locals) (hret : ∀ (r : Int32) (t_thrown : Int32) (t_h : Nat → Int32) (t_orbit : Nat → Int32) (H : Heap) (locs : List Loc) (ls : Array Slot) (pc : Nat), va_P G vwCl (w_X11_is Y h_t B_t t_thrown t_n t_modulus t_rows t_strands t_letters t_listedMany t_listN t_listWhat t_h t_orbit t_table) H → va_D A (w_X11_is Y h_t B_t t_thrown t_n t_modulus t_rows t_strands t_letters t_listedMany t_listN t_listWhat t_h t_orbit t_table) → va_S A s.heap H locs → K r t_thrown t_h t_orbit → decode cX11_is pc = .ok (.ireturn, 1) → W p l e R s m args below meth c H locs 0 0 Q (F0 m pc ls [.int r])) (hP : va_P G vwCl (w_X11_is Y h_t B_t t_thrown t_n t_modulus t_rows t_strands t_letters t_listedMany t_listN t_listWhat t_h t_orbit t_table) s.heap) (hD : va_D A (w_X11_is Y h_t B_t t_thrown t_n t_modulus t_rows t_strands t_letters t_listedMany t_listN t_listWhat t_h t_orbit t_table)) (h : pX11_is t_thrown t_n t_h t_orbit t_table x1 K) : W p l e R s m args below meth c s.heap [] 0 0 Q (entryFrame m ([.ref h_t, .int x1] : List Value).toArray 9) := by
  have inX11 : ∀ w ∈ u_ws RX11 TX11 29, w ∈ wsX11_is := by decide +kernel
  have hf83 := hts (.fieldLink RX11 83 "RackBenchModel" "thrown" "I") (by decide +kernel)
  have hf9 := hts (.fieldLink RX11 9 "RackBenchModel" "n" "I") (by decide +kernel)
  have hcL163 := hts (.constantLong RX11 163 (4)) (by decide +kernel)
  have hl := lv_entry ([.ref h_t, .int x1]) (n := 9) (Nat.le_of_ble_eq_true rfl)
  rw [lg_entry_eq]
  generalize (lg_sl ([.ref h_t, .int x1]) ++ List.replicate (9 - (lg_sl ([.ref h_t, .int x1])).length) Slot.unset).toArray = ls at hl ⊢
  have hl : lv_has ls 9 [(0, .ref h_t), (1, .int x1)] := hl
  generalize hH0 : s.heap = H at hP ⊢
  have hS : va_S A s.heap H [] := by rw [← hH0]; exact va_S.rf
  clear hH0
  generalize ([] : List Loc) = locs at hS ⊢
  have J251 : ∀ (s0 : Int32) (t_thrown : Int32) (t_h : Nat → Int32) (t_orbit : Nat → Int32) (H : Heap) (locs : List Loc) (ls : Array Slot), pX11_is_251 t_n t_table K s0 t_thrown t_h t_orbit → va_P G vwCl (w_X11_is Y h_t B_t t_thrown t_n t_modulus t_rows t_strands t_letters t_listedMany t_listN t_listWhat t_h t_orbit t_table) H → va_D A (w_X11_is Y h_t B_t t_thrown t_n t_modulus t_rows t_strands t_letters t_listedMany t_listN t_listWhat t_h t_orbit t_table) → va_S A s.heap H locs → lv_has ls 9 [] → W p l e R s m args below meth c H locs 0 0 Q (F0 m 251 ls [.int s0]) := by
    intro s0 t_thrown t_h t_orbit H locs ls h hP hD hS hl
    refine lv_istore (lv' := [(7, .int s0)]) hx hb dX11_is_251 hl (by decide) rfl (fun ls hl => ?_)
    refine lv_iload hx hb dX11_is_253 (lv_at hl 0 rfl) ?_
    obtain ⟨ht, hf⟩ := h
    refine lv_if_eq (tgt := 262) hx hb dX11_is_255 (by decide) (fun c9 => ?_) (fun c9 => ?_)
    · have h := ht c9
      refine lv_iconst (v := 0) hx hb dX11_is_262 (by decide) ?_
      exact hret (0 : Int32) t_thrown t_h t_orbit H locs ls _ hP hD hS h dX11_is_263
    · have h := hf c9
      refine lv_iconst (v := 1) hx hb dX11_is_258 (by decide) ?_
      refine lv_goto (tgt := 263) hx hb dX11_is_259 (by decide) ?_
      exact hret (1 : Int32) t_thrown t_h t_orbit H locs ls _ hP hD hS h dX11_is_263
  have J210 : ∀ (x1 : Int32) (x2 : Int32) (x3 : Int32) (x4 : Int32) (x5 : Int32) (s0 : Int32) (t_thrown : Int32) (t_h : Nat → Int32) (t_orbit : Nat → Int32) (H : Heap) (locs : List Loc) (ls : Array Slot), pX11_is_210 t_n t_table K x1 x2 x3 x4 x5 s0 t_thrown t_h t_orbit → va_P G vwCl (w_X11_is Y h_t B_t t_thrown t_n t_modulus t_rows t_strands t_letters t_listedMany t_listN t_listWhat t_h t_orbit t_table) H → va_D A (w_X11_is Y h_t B_t t_thrown t_n t_modulus t_rows t_strands t_letters t_listedMany t_listN t_listWhat t_h t_orbit t_table) → va_S A s.heap H locs → lv_has ls 9 [(1, .int x1), (2, .int x2), (3, .int x3), (4, .int x4), (5, .int x5)] → W p l e R s m args below meth c H locs 0 0 Q (F0 m 210 ls [.int s0]) := by
    intro x1 x2 x3 x4 x5 s0 t_thrown t_h t_orbit H locs ls h hP hD hS hl
    refine lv_istore (lv' := [(6, .int s0), (1, .int x1), (2, .int x2), (3, .int x3), (4, .int x4), (5, .int x5)]) hx hb dX11_is_210 hl (by decide) rfl (fun ls hl => ?_)
    refine lv_iload_n hx hb dX11_is_212 rfl (lv_at hl 1 rfl) ?_
    obtain ⟨ht, hf⟩ := h
    refine lv_if_ne (tgt := 220) hx hb dX11_is_213 (by decide) (fun c9 => ?_) (fun c9 => ?_)
    · have h := ht c9
      refine lv_iload_n hx hb dX11_is_220 rfl (lv_at hl 1 rfl) ?_
      refine lv_iconst (v := 1) hx hb dX11_is_221 (by decide) ?_
      obtain ⟨ht, hf⟩ := h
      refine lv_icmp_ne (tgt := 229) hx hb dX11_is_222 (by decide) (fun c9 => ?_) (fun c9 => ?_)
      · have h := ht c9
        refine lv_iload_n hx hb dX11_is_229 rfl (lv_at hl 1 rfl) ?_
        refine lv_iconst (v := 2) hx hb dX11_is_230 (by decide) ?_
        obtain ⟨ht, hf⟩ := h
        refine lv_icmp_ne (tgt := 239) hx hb dX11_is_231 (by decide) (fun c9 => ?_) (fun c9 => ?_)
        · have h := ht c9
          refine lv_iload_n hx hb dX11_is_239 rfl (lv_at hl 1 rfl) ?_
          refine lv_iconst (v := 3) hx hb dX11_is_240 (by decide) ?_
          obtain ⟨ht, hf⟩ := h
          refine lv_icmp_ne (tgt := 249) hx hb dX11_is_241 (by decide) (fun c9 => ?_) (fun c9 => ?_)
          · have h := ht c9
            refine lv_iload hx hb dX11_is_249 (lv_at hl 5 rfl) ?_
            exact J251 x5 t_thrown t_h t_orbit H locs ls h hP hD hS (lv_sub hl [] rfl)
          · have h := hf c9
            refine lv_iload hx hb dX11_is_244 (lv_at hl 4 rfl) ?_
            refine lv_goto (tgt := 251) hx hb dX11_is_246 (by decide) ?_
            exact J251 x4 t_thrown t_h t_orbit H locs ls h hP hD hS (lv_sub hl [] rfl)
        · have h := hf c9
          refine lv_iload hx hb dX11_is_234 (lv_at hl 0 rfl) ?_
          refine lv_goto (tgt := 251) hx hb dX11_is_236 (by decide) ?_
          exact J251 s0 t_thrown t_h t_orbit H locs ls h hP hD hS (lv_sub hl [] rfl)
      · have h := hf c9
        refine lv_iload_n hx hb dX11_is_225 rfl (lv_at hl 3 rfl) ?_
        refine lv_goto (tgt := 251) hx hb dX11_is_226 (by decide) ?_
        exact J251 x3 t_thrown t_h t_orbit H locs ls h hP hD hS (lv_sub hl [] rfl)
    · have h := hf c9
      refine lv_iload_n hx hb dX11_is_216 rfl (lv_at hl 2 rfl) ?_
      refine lv_goto (tgt := 251) hx hb dX11_is_217 (by decide) ?_
      exact J251 x2 t_thrown t_h t_orbit H locs ls h hP hD hS (lv_sub hl [] rfl)
  refine lv_aload_n hx hb dX11_is_0 rfl (lv_at hl 0 rfl) ?_
  refine lv_iconst (v := 0) hx hb dX11_is_1 (by decide) ?_
  refine va_put (D := G) (ci := 10) (v := .int (0 : Int32)) (ty := .int) (C := RX11) (T := TX11) (N := 29) hx hb hts inX11 tyX11 tyX11_ok nmX11 hown hK hP hD hS 0 rfl rfl 0 (by decide) hf83 (fun _ h9 => h9) rfl (by decide +kernel) rfl rfl (Nat.le_of_ble_eq_true rfl) dX11_is_2 (fun H locs hP hD hS => ?_)
  have hP : va_P G vwCl (w_X11_is Y h_t B_t (0 : Int32) t_n t_modulus t_rows t_strands t_letters t_listedMany t_listN t_listWhat t_h t_orbit t_table) H := hP
  have hD : va_D A (w_X11_is Y h_t B_t (0 : Int32) t_n t_modulus t_rows t_strands t_letters t_listedMany t_listN t_listWhat t_h t_orbit t_table) := hD
  refine lv_iload_n hx hb dX11_is_5 rfl (lv_at hl 1 rfl) ?_
  refine lv_i2l hx hb dX11_is_6 rfl ?_
  refine lv_lconst (v := 0) hx hb dX11_is_7 (by decide) ?_
  refine lv_ldc2 (v := 4) hx hb hown hcL163 dX11_is_8 ?_
  refine mc_iS ⟨hx, hb, hml, hown, hts⟩ hK hE hA hP hD hS (c_X11_in l G Y tF H.size (Int32.toInt64 x1) (0 : Int64) (4 : Int64) h) (va_cwS 3 hts gX11_is_X11_in rfl rfl rfl (by decide +kernel) ⟨Nat.le_trans (by decide) hRf, Nat.le_trans (by decide) hRl⟩) (fun u => (w_X11_is Y h_t B_t (0 : Int32) t_n t_modulus t_rows t_strands t_letters t_listedMany t_listN t_listWhat t_h t_orbit t_table)) [] [0, 1, 2, 3] [0, 1, 2, 3] rfl rfl rfl rfl (by decide) (fun _ => rfl) rfl rfl hl.1 rfl (Nat.le_of_ble_eq_true rfl) dX11_is_11 (fun r11 u H locs h hP hD hS => ?_)
  try dsimp only at h
  have hP : va_P G vwCl (w_X11_is Y h_t B_t (0 : Int32) t_n t_modulus t_rows t_strands t_letters t_listedMany t_listN t_listWhat t_h t_orbit t_table) H := hP
  have hD : va_D A (w_X11_is Y h_t B_t (0 : Int32) t_n t_modulus t_rows t_strands t_letters t_listedMany t_listN t_listWhat t_h t_orbit t_table) := hD
  obtain ⟨ht, hf⟩ := h
  refine lv_if_eq (tgt := 24) hx hb dX11_is_14 (by decide) (fun c9 => ?_) (fun c9 => ?_)
  · have h := ht c9
    refine lv_iconst (v := -1) hx hb dX11_is_24 (by decide) ?_
    exact hret (-1 : Int32) (0 : Int32) t_h t_orbit H locs ls _ hP hD hS h dX11_is_25
  · have h := hf c9
    refine lv_aload_n hx hb dX11_is_17 rfl (lv_at hl 0 rfl) ?_
    refine mc_iV ⟨hx, hb, hml, hown, hts⟩ hK hE hA hP hD hS (c_X11_isRack l G Y tF H.size h_t B_t (0 : Int32) t_n t_modulus t_rows t_strands t_letters t_listedMany t_listN t_listWhat t_table h) (cwV 0 hts gX11_is_X11_isRack rfl rfl rfl (by decide +kernel) ⟨Nat.le_trans (by decide) hRf, Nat.le_trans (by decide) hRl⟩) (fun u => (w_X11_is Y h_t B_t (0 : Int32) t_n t_modulus t_rows t_strands t_letters t_listedMany t_listN t_listWhat t_h t_orbit t_table)) [0, 3] [1, 2] [2, 0, 1, 3] rfl rfl rfl rfl (by decide) (fun _ => rfl) rfl 0 10 rfl rfl rfl rfl hl.1 rfl (Nat.le_of_ble_eq_true rfl) dX11_is_18 (fun r18 u H locs h hP hD hS => ?_)
    try dsimp only at h
    have hP : va_P G vwCl (w_X11_is Y h_t B_t (0 : Int32) t_n t_modulus t_rows t_strands t_letters t_listedMany t_listN t_listWhat t_h t_orbit t_table) H := hP
    have hD : va_D A (w_X11_is Y h_t B_t (0 : Int32) t_n t_modulus t_rows t_strands t_letters t_listedMany t_listN t_listWhat t_h t_orbit t_table) := hD
    obtain ⟨ht, hf⟩ := h
    refine lv_if_ne (tgt := 26) hx hb dX11_is_21 (by decide) (fun c9 => ?_) (fun c9 => ?_)
    · have h := ht c9
      refine lv_iconst (v := 1) hx hb dX11_is_26 (by decide) ?_
      refine lv_istore_n (lv' := [(2, .int (1 : Int32)), (0, .ref h_t), (1, .int x1)]) hx hb dX11_is_27 rfl hl (by decide) rfl (fun ls hl => ?_)
      refine lv_iconst (v := 1) hx hb dX11_is_28 (by decide) ?_
      refine lv_istore_n (lv' := [(3, .int (1 : Int32)), (2, .int (1 : Int32)), (0, .ref h_t), (1, .int x1)]) hx hb dX11_is_29 rfl hl (by decide) rfl (fun ls hl => ?_)
      refine lv_iconst (v := 1) hx hb dX11_is_30 (by decide) ?_
      refine lv_istore (lv' := [(4, .int (1 : Int32)), (3, .int (1 : Int32)), (2, .int (1 : Int32)), (0, .ref h_t), (1, .int x1)]) hx hb dX11_is_31 hl (by decide) rfl (fun ls hl => ?_)
      refine lv_iconst (v := 1) hx hb dX11_is_33 (by decide) ?_
      refine lv_istore (lv' := [(5, .int (1 : Int32)), (4, .int (1 : Int32)), (3, .int (1 : Int32)), (2, .int (1 : Int32)), (0, .ref h_t), (1, .int x1)]) hx hb dX11_is_34 hl (by decide) rfl (fun ls hl => ?_)
      refine lv_iconst (v := 0) hx hb dX11_is_36 (by decide) ?_
      refine lv_istore (lv' := [(6, .int (0 : Int32)), (5, .int (1 : Int32)), (4, .int (1 : Int32)), (3, .int (1 : Int32)), (2, .int (1 : Int32)), (0, .ref h_t), (1, .int x1)]) hx hb dX11_is_37 hl (by decide) rfl (fun ls hl => ?_)
      obtain ⟨I39, m39, hI39, hB39⟩ := h
      have L39 : ∀ (x1 : Int32) (t_thrown : Int32) (t_h : Nat → Int32) (t_orbit : Nat → Int32) (I39 : Int32 → Int32 → Int32 → Int32 → Int32 → Prop) (m39 : Int32 → Int32 → Int32 → Int32 → Int32 → Nat), (∀ (x2 : Int32) (x3 : Int32) (x4 : Int32) (x5 : Int32) (x6 : Int32), I39 x2 x3 x4 x5 x6 → pX11_is_39 t_n t_table K x1 t_thrown t_h t_orbit x2 x3 x4 x5 x6 (fun x2' x3' x4' x5' x6' => I39 x2' x3' x4' x5' x6' ∧ m39 x2' x3' x4' x5' x6' < m39 x2 x3 x4 x5 x6)) → ∀ (n : Nat) (x2 : Int32) (x3 : Int32) (x4 : Int32) (x5 : Int32) (x6 : Int32) (H : Heap) (locs : List Loc) (ls : Array Slot), I39 x2 x3 x4 x5 x6 → m39 x2 x3 x4 x5 x6 < n → va_P G vwCl (w_X11_is Y h_t B_t t_thrown t_n t_modulus t_rows t_strands t_letters t_listedMany t_listN t_listWhat t_h t_orbit t_table) H → va_D A (w_X11_is Y h_t B_t t_thrown t_n t_modulus t_rows t_strands t_letters t_listedMany t_listN t_listWhat t_h t_orbit t_table) → va_S A s.heap H locs → lv_has ls 9 [(0, .ref h_t), (1, .int x1), (2, .int x2), (3, .int x3), (4, .int x4), (5, .int x5), (6, .int x6)] → W p l e R s m args below meth c H locs 0 0 Q (F0 m 39 ls []) := by
        intro x1 t_thrown t_h t_orbit I39 m39 hB39 n
        induction n with
        | zero => intro x2 x3 x4 x5 x6 H locs ls _ hm; exact absurd hm (Nat.not_lt_zero _)
        | succ n ih =>
          intro x2 x3 x4 x5 x6 H locs ls hI hm hP hD hS hl
          obtain ⟨R39, h, rec39⟩ : ∃ R39 : Int32 → Int32 → Int32 → Int32 → Int32 → Prop, pX11_is_39 t_n t_table K x1 t_thrown t_h t_orbit x2 x3 x4 x5 x6 R39 ∧ ∀ (x2 : Int32) (x3 : Int32) (x4 : Int32) (x5 : Int32) (x6 : Int32) (H : Heap) (locs : List Loc) (ls : Array Slot), R39 x2 x3 x4 x5 x6 → va_P G vwCl (w_X11_is Y h_t B_t t_thrown t_n t_modulus t_rows t_strands t_letters t_listedMany t_listN t_listWhat t_h t_orbit t_table) H → va_D A (w_X11_is Y h_t B_t t_thrown t_n t_modulus t_rows t_strands t_letters t_listedMany t_listN t_listWhat t_h t_orbit t_table) → va_S A s.heap H locs → lv_has ls 9 [(0, .ref h_t), (1, .int x1), (2, .int x2), (3, .int x3), (4, .int x4), (5, .int x5), (6, .int x6)] → W p l e R s m args below meth c H locs 0 0 Q (F0 m 39 ls []) := ⟨_, hB39 x2 x3 x4 x5 x6 hI, fun x2 x3 x4 x5 x6 H locs ls hh hP hD hS hl => ih x2 x3 x4 x5 x6 H locs ls hh.1 (Nat.lt_of_lt_of_le hh.2 (Nat.le_of_lt_succ hm)) hP hD hS hl⟩
          have J188 : ∀ (x2 : Int32) (x3 : Int32) (x4 : Int32) (x6 : Int32) (H : Heap) (locs : List Loc) (ls : Array Slot), pX11_is_188 t_n t_table R39 K x1 t_thrown t_h t_orbit x2 x3 x4 x6 → va_P G vwCl (w_X11_is Y h_t B_t t_thrown t_n t_modulus t_rows t_strands t_letters t_listedMany t_listN t_listWhat t_h t_orbit t_table) H → va_D A (w_X11_is Y h_t B_t t_thrown t_n t_modulus t_rows t_strands t_letters t_listedMany t_listN t_listWhat t_h t_orbit t_table) → va_S A s.heap H locs → lv_has ls 9 [(0, .ref h_t), (1, .int x1), (2, .int x2), (3, .int x3), (4, .int x4), (6, .int x6)] → W p l e R s m args below meth c H locs 0 0 Q (F0 m 188 ls []) := by
            intro x2 x3 x4 x6 H locs ls h hP hD hS hl
            refine lv_iconst (v := 0) hx hb dX11_is_188 (by decide) ?_
            refine lv_istore (lv' := [(5, .int (0 : Int32)), (0, .ref h_t), (1, .int x1), (2, .int x2), (3, .int x3), (4, .int x4), (6, .int x6)]) hx hb dX11_is_189 hl (by decide) rfl (fun ls hl => ?_)
            refine lv_iinc (v := (x6 + 1)) (lv' := [(6, .int (x6 + 1)), (5, .int (0 : Int32)), (0, .ref h_t), (1, .int x1), (2, .int x2), (3, .int x3), (4, .int x4)]) hx hb dX11_is_191 hl (k := 6) rfl rfl (by decide) rfl (fun ls hl => ?_)
            refine lv_goto (tgt := 39) hx hb dX11_is_194 (by decide) ?_
            exact rec39 x2 x3 x4 (0 : Int32) (x6 + 1) H locs ls h hP hD hS (lv_sub hl [2, 3, 4, 5, 6, 1, 0] rfl)
          have J70 : ∀ (x3 : Int32) (x4 : Int32) (x5 : Int32) (x6 : Int32) (s0 : Int32) (H : Heap) (locs : List Loc) (ls : Array Slot), pX11_is_70 t_n t_table R39 K x1 t_thrown t_h t_orbit x3 x4 x5 x6 s0 → va_P G vwCl (w_X11_is Y h_t B_t t_thrown t_n t_modulus t_rows t_strands t_letters t_listedMany t_listN t_listWhat t_h t_orbit t_table) H → va_D A (w_X11_is Y h_t B_t t_thrown t_n t_modulus t_rows t_strands t_letters t_listedMany t_listN t_listWhat t_h t_orbit t_table) → va_S A s.heap H locs → lv_has ls 9 [(0, .ref h_t), (1, .int x1), (3, .int x3), (4, .int x4), (5, .int x5), (6, .int x6)] → W p l e R s m args below meth c H locs 0 0 Q (F0 m 70 ls [.int s0]) := by
            intro x3 x4 x5 x6 s0 H locs ls h hP hD hS hl
            refine lv_istore_n (lv' := [(2, .int s0), (0, .ref h_t), (1, .int x1), (3, .int x3), (4, .int x4), (5, .int x5), (6, .int x6)]) hx hb dX11_is_70 rfl hl (by decide) rfl (fun ls hl => ?_)
            refine lv_iconst (v := 0) hx hb dX11_is_71 (by decide) ?_
            refine lv_istore (lv' := [(7, .int (0 : Int32)), (2, .int s0), (0, .ref h_t), (1, .int x1), (3, .int x3), (4, .int x4), (5, .int x5), (6, .int x6)]) hx hb dX11_is_72 hl (by decide) rfl (fun ls hl => ?_)
            refine lv_iconst (v := 0) hx hb dX11_is_74 (by decide) ?_
            refine lv_istore (lv' := [(8, .int (0 : Int32)), (7, .int (0 : Int32)), (2, .int s0), (0, .ref h_t), (1, .int x1), (3, .int x3), (4, .int x4), (5, .int x5), (6, .int x6)]) hx hb dX11_is_75 hl (by decide) rfl (fun ls hl => ?_)
            obtain ⟨I77, m77, hI77, hB77⟩ := h
            have L77 : ∀ (x2 : Int32) (x5 : Int32) (x6 : Int32) (I77 : Int32 → Int32 → Int32 → Int32 → Prop) (m77 : Int32 → Int32 → Int32 → Int32 → Nat), (∀ (x3 : Int32) (x4 : Int32) (x7 : Int32) (x8 : Int32), I77 x3 x4 x7 x8 → pX11_is_77 t_n t_table R39 K x1 t_thrown t_h t_orbit x2 x5 x6 x3 x4 x7 x8 (fun x3' x4' x7' x8' => I77 x3' x4' x7' x8' ∧ m77 x3' x4' x7' x8' < m77 x3 x4 x7 x8)) → ∀ (n : Nat) (x3 : Int32) (x4 : Int32) (x7 : Int32) (x8 : Int32) (H : Heap) (locs : List Loc) (ls : Array Slot), I77 x3 x4 x7 x8 → m77 x3 x4 x7 x8 < n → va_P G vwCl (w_X11_is Y h_t B_t t_thrown t_n t_modulus t_rows t_strands t_letters t_listedMany t_listN t_listWhat t_h t_orbit t_table) H → va_D A (w_X11_is Y h_t B_t t_thrown t_n t_modulus t_rows t_strands t_letters t_listedMany t_listN t_listWhat t_h t_orbit t_table) → va_S A s.heap H locs → lv_has ls 9 [(0, .ref h_t), (1, .int x1), (2, .int x2), (3, .int x3), (4, .int x4), (5, .int x5), (6, .int x6), (7, .int x7), (8, .int x8)] → W p l e R s m args below meth c H locs 0 0 Q (F0 m 77 ls []) := by
              intro x2 x5 x6 I77 m77 hB77 n
              induction n with
              | zero => intro x3 x4 x7 x8 H locs ls _ hm; exact absurd hm (Nat.not_lt_zero _)
              | succ n ih =>
                intro x3 x4 x7 x8 H locs ls hI hm hP hD hS hl
                obtain ⟨R77, h, rec77⟩ : ∃ R77 : Int32 → Int32 → Int32 → Int32 → Prop, pX11_is_77 t_n t_table R39 K x1 t_thrown t_h t_orbit x2 x5 x6 x3 x4 x7 x8 R77 ∧ ∀ (x3 : Int32) (x4 : Int32) (x7 : Int32) (x8 : Int32) (H : Heap) (locs : List Loc) (ls : Array Slot), R77 x3 x4 x7 x8 → va_P G vwCl (w_X11_is Y h_t B_t t_thrown t_n t_modulus t_rows t_strands t_letters t_listedMany t_listN t_listWhat t_h t_orbit t_table) H → va_D A (w_X11_is Y h_t B_t t_thrown t_n t_modulus t_rows t_strands t_letters t_listedMany t_listN t_listWhat t_h t_orbit t_table) → va_S A s.heap H locs → lv_has ls 9 [(0, .ref h_t), (1, .int x1), (2, .int x2), (3, .int x3), (4, .int x4), (5, .int x5), (6, .int x6), (7, .int x7), (8, .int x8)] → W p l e R s m args below meth c H locs 0 0 Q (F0 m 77 ls []) := ⟨_, hB77 x3 x4 x7 x8 hI, fun x3 x4 x7 x8 H locs ls hh hP hD hS hl => ih x3 x4 x7 x8 H locs ls hh.1 (Nat.lt_of_lt_of_le hh.2 (Nat.le_of_lt_succ hm)) hP hD hS hl⟩
                have J157 : ∀ (x3 : Int32) (x7 : Int32) (x8 : Int32) (H : Heap) (locs : List Loc) (ls : Array Slot), pX11_is_157 t_n t_table R39 R77 K x1 t_thrown t_h t_orbit x2 x5 x6 x3 x7 x8 → va_P G vwCl (w_X11_is Y h_t B_t t_thrown t_n t_modulus t_rows t_strands t_letters t_listedMany t_listN t_listWhat t_h t_orbit t_table) H → va_D A (w_X11_is Y h_t B_t t_thrown t_n t_modulus t_rows t_strands t_letters t_listedMany t_listN t_listWhat t_h t_orbit t_table) → va_S A s.heap H locs → lv_has ls 9 [(0, .ref h_t), (1, .int x1), (2, .int x2), (3, .int x3), (5, .int x5), (6, .int x6), (7, .int x7), (8, .int x8)] → W p l e R s m args below meth c H locs 0 0 Q (F0 m 157 ls []) := by
                  intro x3 x7 x8 H locs ls h hP hD hS hl
                  refine lv_iconst (v := 0) hx hb dX11_is_157 (by decide) ?_
                  refine lv_istore (lv' := [(4, .int (0 : Int32)), (0, .ref h_t), (1, .int x1), (2, .int x2), (3, .int x3), (5, .int x5), (6, .int x6), (7, .int x7), (8, .int x8)]) hx hb dX11_is_158 hl (by decide) rfl (fun ls hl => ?_)
                  refine lv_iinc (v := (x8 + 1)) (lv' := [(8, .int (x8 + 1)), (4, .int (0 : Int32)), (0, .ref h_t), (1, .int x1), (2, .int x2), (3, .int x3), (5, .int x5), (6, .int x6), (7, .int x7)]) hx hb dX11_is_160 hl (k := 8) rfl rfl (by decide) rfl (fun ls hl => ?_)
                  refine lv_goto (tgt := 77) hx hb dX11_is_163 (by decide) ?_
                  exact rec77 x3 (0 : Int32) x7 (x8 + 1) H locs ls h hP hD hS (lv_sub hl [2, 3, 4, 5, 1, 6, 7, 8, 0] rfl)
                have J153 : ∀ (x3 : Int32) (x7 : Int32) (x8 : Int32) (H : Heap) (locs : List Loc) (ls : Array Slot), pX11_is_153 t_n t_table R39 R77 K x1 t_thrown t_h t_orbit x2 x5 x6 x3 x7 x8 → va_P G vwCl (w_X11_is Y h_t B_t t_thrown t_n t_modulus t_rows t_strands t_letters t_listedMany t_listN t_listWhat t_h t_orbit t_table) H → va_D A (w_X11_is Y h_t B_t t_thrown t_n t_modulus t_rows t_strands t_letters t_listedMany t_listN t_listWhat t_h t_orbit t_table) → va_S A s.heap H locs → lv_has ls 9 [(0, .ref h_t), (1, .int x1), (2, .int x2), (3, .int x3), (5, .int x5), (6, .int x6), (7, .int x7), (8, .int x8)] → W p l e R s m args below meth c H locs 0 0 Q (F0 m 153 ls []) := by
                  intro x3 x7 x8 H locs ls h hP hD hS hl
                  refine lv_iconst (v := 1) hx hb dX11_is_153 (by decide) ?_
                  refine lv_goto (tgt := 158) hx hb dX11_is_154 (by decide) ?_
                  refine lv_istore (lv' := [(4, .int (1 : Int32)), (0, .ref h_t), (1, .int x1), (2, .int x2), (3, .int x3), (5, .int x5), (6, .int x6), (7, .int x7), (8, .int x8)]) hx hb dX11_is_158 hl (by decide) rfl (fun ls hl => ?_)
                  refine lv_iinc (v := (x8 + 1)) (lv' := [(8, .int (x8 + 1)), (4, .int (1 : Int32)), (0, .ref h_t), (1, .int x1), (2, .int x2), (3, .int x3), (5, .int x5), (6, .int x6), (7, .int x7)]) hx hb dX11_is_160 hl (k := 8) rfl rfl (by decide) rfl (fun ls hl => ?_)
                  refine lv_goto (tgt := 77) hx hb dX11_is_163 (by decide) ?_
                  exact rec77 x3 (1 : Int32) x7 (x8 + 1) H locs ls h hP hD hS (lv_sub hl [2, 3, 4, 5, 1, 6, 7, 8, 0] rfl)
                have J114 : ∀ (x4 : Int32) (x7 : Int32) (x8 : Int32) (s0 : Int32) (H : Heap) (locs : List Loc) (ls : Array Slot), pX11_is_114 t_n t_table R39 R77 K x1 t_thrown t_h t_orbit x2 x5 x6 x4 x7 x8 s0 → va_P G vwCl (w_X11_is Y h_t B_t t_thrown t_n t_modulus t_rows t_strands t_letters t_listedMany t_listN t_listWhat t_h t_orbit t_table) H → va_D A (w_X11_is Y h_t B_t t_thrown t_n t_modulus t_rows t_strands t_letters t_listedMany t_listN t_listWhat t_h t_orbit t_table) → va_S A s.heap H locs → lv_has ls 9 [(0, .ref h_t), (1, .int x1), (2, .int x2), (4, .int x4), (5, .int x5), (6, .int x6), (7, .int x7), (8, .int x8)] → W p l e R s m args below meth c H locs 0 0 Q (F0 m 114 ls [.int s0]) := by
                  intro x4 x7 x8 s0 H locs ls h hP hD hS hl
                  refine lv_istore_n (lv' := [(3, .int s0), (0, .ref h_t), (1, .int x1), (2, .int x2), (4, .int x4), (5, .int x5), (6, .int x6), (7, .int x7), (8, .int x8)]) hx hb dX11_is_114 rfl hl (by decide) rfl (fun ls hl => ?_)
                  refine lv_iload hx hb dX11_is_115 (lv_at hl 7 rfl) ?_
                  refine lv_iconst (v := 1) hx hb dX11_is_117 (by decide) ?_
                  refine lv_aload_n hx hb dX11_is_118 rfl (lv_at hl 1 rfl) ?_
                  refine lv_iload hx hb dX11_is_119 (lv_at hl 8 rfl) ?_
                  refine lv_iload hx hb dX11_is_121 (lv_at hl 6 rfl) ?_
                  refine mc_iV ⟨hx, hb, hml, hown, hts⟩ hK hE hA hP hD hS (c_X11_by l G Y tF H.size h_t B_t t_thrown t_n t_modulus t_rows t_strands t_letters t_listedMany t_listN t_listWhat t_table x8 x6 h) (cwV 2 hts gX11_is_X11_by rfl rfl rfl (by decide +kernel) ⟨Nat.le_trans (by decide) hRf, Nat.le_trans (by decide) hRl⟩) (fun u => (w_X11_is Y h_t B_t t_thrown t_n t_modulus t_rows t_strands t_letters t_listedMany t_listN t_listWhat t_h t_orbit t_table)) [0, 3] [1, 2] [2, 0, 1, 3] rfl rfl rfl rfl (by decide) (fun _ => rfl) rfl 0 10 rfl rfl rfl rfl hl.1 rfl (Nat.le_of_ble_eq_true rfl) dX11_is_123 (fun r123 u H locs h hP hD hS => ?_)
                  try dsimp only at h
                  have hP : va_P G vwCl (w_X11_is Y h_t B_t t_thrown t_n t_modulus t_rows t_strands t_letters t_listedMany t_listN t_listWhat t_h t_orbit t_table) H := hP
                  have hD : va_D A (w_X11_is Y h_t B_t t_thrown t_n t_modulus t_rows t_strands t_letters t_listedMany t_listN t_listWhat t_h t_orbit t_table) := hD
                  refine lv_ishl hx hb dX11_is_126 ?_
                  refine lv_ior hx hb dX11_is_127 ?_
                  refine lv_istore (lv' := [(7, .int (x7 ||| ((1 : Int32) <<< (r123 &&& 31)))), (3, .int s0), (0, .ref h_t), (1, .int x1), (2, .int x2), (4, .int x4), (5, .int x5), (6, .int x6), (8, .int x8)]) hx hb dX11_is_128 hl (by decide) rfl (fun ls hl => ?_)
                  refine lv_iload hx hb dX11_is_130 (lv_at hl 5 rfl) ?_
                  obtain ⟨ht, hf⟩ := h
                  refine lv_if_eq (tgt := 157) hx hb dX11_is_132 (by decide) (fun c9 => ?_) (fun c9 => ?_)
                  · have h := ht c9
                    exact J157 s0 (x7 ||| ((1 : Int32) <<< (r123 &&& 31))) x8 H locs ls h hP hD hS (lv_sub hl [2, 3, 4, 1, 6, 7, 0, 8] rfl)
                  · have h := hf c9
                    refine lv_iload hx hb dX11_is_135 (lv_at hl 8 rfl) ?_
                    refine lv_iload hx hb dX11_is_137 (lv_at hl 7 rfl) ?_
                    obtain ⟨ht, hf⟩ := h
                    refine lv_icmp_le (tgt := 153) hx hb dX11_is_139 (by decide) (fun c9 => ?_) (fun c9 => ?_)
                    · have h := ht c9
                      exact J153 s0 (x7 ||| ((1 : Int32) <<< (r123 &&& 31))) x8 H locs ls h hP hD hS (lv_sub hl [2, 3, 4, 1, 6, 7, 0, 8] rfl)
                    · have h := hf c9
                      refine lv_aload_n hx hb dX11_is_142 rfl (lv_at hl 2 rfl) ?_
                      refine lv_iload hx hb dX11_is_143 (lv_at hl 7 rfl) ?_
                      refine lv_iload hx hb dX11_is_145 (lv_at hl 8 rfl) ?_
                      refine mc_iV ⟨hx, hb, hml, hown, hts⟩ hK hE hA hP hD hS (c_X11_sameRows l G Y tF H.size h_t B_t t_thrown t_n t_modulus t_rows t_strands t_letters t_listedMany t_listN t_listWhat t_table x6 x8 h) (cwV 2 hts gX11_is_X11_sameRows rfl rfl rfl (by decide +kernel) ⟨Nat.le_trans (by decide) hRf, Nat.le_trans (by decide) hRl⟩) (fun u => (w_X11_is Y h_t B_t t_thrown t_n t_modulus t_rows t_strands t_letters t_listedMany t_listN t_listWhat t_h t_orbit t_table)) [0, 3] [1, 2] [2, 0, 1, 3] rfl rfl rfl rfl (by decide) (fun _ => rfl) rfl 0 10 rfl rfl rfl rfl hl.1 rfl (Nat.le_of_ble_eq_true rfl) dX11_is_147 (fun r147 u H locs h hP hD hS => ?_)
                      try dsimp only at h
                      have hP : va_P G vwCl (w_X11_is Y h_t B_t t_thrown t_n t_modulus t_rows t_strands t_letters t_listedMany t_listN t_listWhat t_h t_orbit t_table) H := hP
                      have hD : va_D A (w_X11_is Y h_t B_t t_thrown t_n t_modulus t_rows t_strands t_letters t_listedMany t_listN t_listWhat t_h t_orbit t_table) := hD
                      obtain ⟨ht, hf⟩ := h
                      refine lv_if_ne (tgt := 157) hx hb dX11_is_150 (by decide) (fun c9 => ?_) (fun c9 => ?_)
                      · have h := ht c9
                        exact J157 s0 (x7 ||| ((1 : Int32) <<< (r123 &&& 31))) x8 H locs ls h hP hD hS (lv_sub hl [2, 3, 4, 1, 6, 7, 0, 8] rfl)
                      · have h := hf c9
                        exact J153 s0 (x7 ||| ((1 : Int32) <<< (r123 &&& 31))) x8 H locs ls h hP hD hS (lv_sub hl [2, 3, 4, 1, 6, 7, 0, 8] rfl)
                have J113 : ∀ (x4 : Int32) (x7 : Int32) (x8 : Int32) (H : Heap) (locs : List Loc) (ls : Array Slot), pX11_is_113 t_n t_table R39 R77 K x1 t_thrown t_h t_orbit x2 x5 x6 x4 x7 x8 → va_P G vwCl (w_X11_is Y h_t B_t t_thrown t_n t_modulus t_rows t_strands t_letters t_listedMany t_listN t_listWhat t_h t_orbit t_table) H → va_D A (w_X11_is Y h_t B_t t_thrown t_n t_modulus t_rows t_strands t_letters t_listedMany t_listN t_listWhat t_h t_orbit t_table) → va_S A s.heap H locs → lv_has ls 9 [(0, .ref h_t), (1, .int x1), (2, .int x2), (4, .int x4), (5, .int x5), (6, .int x6), (7, .int x7), (8, .int x8)] → W p l e R s m args below meth c H locs 0 0 Q (F0 m 113 ls []) := by
                  intro x4 x7 x8 H locs ls h hP hD hS hl
                  refine lv_iconst (v := 0) hx hb dX11_is_113 (by decide) ?_
                  exact J114 x4 x7 x8 (0 : Int32) H locs ls h hP hD hS (lv_sub hl [0, 1, 2, 3, 4, 5, 6, 7] rfl)
                refine lv_iload hx hb dX11_is_77 (lv_at hl 8 rfl) ?_
                refine lv_aload_n hx hb dX11_is_79 rfl (lv_at hl 0 rfl) ?_
                refine va_get (D := G) (ci := 10) (v := .int t_n) (C := RX11) (T := TX11) (N := 29) hx hb hts inX11 hown hK hP 0 rfl rfl 1 (by decide) hf9 (fun _ h9 => h9) rfl dX11_is_80 ?_
                obtain ⟨ht, hf⟩ := h
                refine lv_icmp_ge (tgt := 166) hx hb dX11_is_83 (by decide) (fun c9 => ?_) (fun c9 => ?_)
                · have h := ht c9
                  refine lv_iload hx hb dX11_is_166 (lv_at hl 5 rfl) ?_
                  obtain ⟨ht, hf⟩ := h
                  refine lv_if_eq (tgt := 188) hx hb dX11_is_168 (by decide) (fun c9 => ?_) (fun c9 => ?_)
                  · have h := ht c9
                    exact J188 x2 x3 x4 x6 H locs ls h hP hD hS (lv_sub hl [0, 1, 2, 3, 4, 6] rfl)
                  · have h := hf c9
                    refine lv_iload hx hb dX11_is_171 (lv_at hl 7 rfl) ?_
                    refine lv_iconst (v := 1) hx hb dX11_is_173 (by decide) ?_
                    refine lv_aload_n hx hb dX11_is_174 rfl (lv_at hl 0 rfl) ?_
                    refine va_get (D := G) (ci := 10) (v := .int t_n) (C := RX11) (T := TX11) (N := 29) hx hb hts inX11 hown hK hP 0 rfl rfl 1 (by decide) hf9 (fun _ h9 => h9) rfl dX11_is_175 ?_
                    refine lv_ishl hx hb dX11_is_178 ?_
                    refine lv_iconst (v := 1) hx hb dX11_is_179 (by decide) ?_
                    refine lv_isub hx hb dX11_is_180 ?_
                    obtain ⟨ht, hf⟩ := h
                    refine lv_icmp_ne (tgt := 188) hx hb dX11_is_181 (by decide) (fun c9 => ?_) (fun c9 => ?_)
                    · have h := ht c9
                      exact J188 x2 x3 x4 x6 H locs ls h hP hD hS (lv_sub hl [0, 1, 2, 3, 4, 6] rfl)
                    · have h := hf c9
                      refine lv_iconst (v := 1) hx hb dX11_is_184 (by decide) ?_
                      refine lv_goto (tgt := 189) hx hb dX11_is_185 (by decide) ?_
                      refine lv_istore (lv' := [(5, .int (1 : Int32)), (0, .ref h_t), (1, .int x1), (2, .int x2), (3, .int x3), (4, .int x4), (6, .int x6), (7, .int x7), (8, .int x8)]) hx hb dX11_is_189 hl (by decide) rfl (fun ls hl => ?_)
                      refine lv_iinc (v := (x6 + 1)) (lv' := [(6, .int (x6 + 1)), (5, .int (1 : Int32)), (0, .ref h_t), (1, .int x1), (2, .int x2), (3, .int x3), (4, .int x4), (7, .int x7), (8, .int x8)]) hx hb dX11_is_191 hl (k := 6) rfl rfl (by decide) rfl (fun ls hl => ?_)
                      refine lv_goto (tgt := 39) hx hb dX11_is_194 (by decide) ?_
                      exact rec39 x2 x3 x4 (1 : Int32) (x6 + 1) H locs ls h hP hD hS (lv_sub hl [2, 3, 4, 5, 6, 1, 0] rfl)
                · have h := hf c9
                  refine lv_iload_n hx hb dX11_is_86 rfl (lv_at hl 3 rfl) ?_
                  obtain ⟨ht, hf⟩ := h
                  refine lv_if_eq (tgt := 113) hx hb dX11_is_87 (by decide) (fun c9 => ?_) (fun c9 => ?_)
                  · have h := ht c9
                    exact J113 x4 x7 x8 H locs ls h hP hD hS (lv_sub hl [0, 1, 2, 4, 5, 6, 7, 8] rfl)
                  · have h := hf c9
                    refine lv_aload_n hx hb dX11_is_90 rfl (lv_at hl 0 rfl) ?_
                    refine lv_iload hx hb dX11_is_91 (lv_at hl 6 rfl) ?_
                    refine lv_aload_n hx hb dX11_is_93 rfl (lv_at hl 0 rfl) ?_
                    refine lv_iload hx hb dX11_is_94 (lv_at hl 6 rfl) ?_
                    refine lv_iload hx hb dX11_is_96 (lv_at hl 8 rfl) ?_
                    refine mc_iV ⟨hx, hb, hml, hown, hts⟩ hK hE hA hP hD hS (c_X11_by l G Y tF H.size h_t B_t t_thrown t_n t_modulus t_rows t_strands t_letters t_listedMany t_listN t_listWhat t_table x6 x8 h) (cwV 2 hts gX11_is_X11_by rfl rfl rfl (by decide +kernel) ⟨Nat.le_trans (by decide) hRf, Nat.le_trans (by decide) hRl⟩) (fun u => (w_X11_is Y h_t B_t t_thrown t_n t_modulus t_rows t_strands t_letters t_listedMany t_listN t_listWhat t_h t_orbit t_table)) [0, 3] [1, 2] [2, 0, 1, 3] rfl rfl rfl rfl (by decide) (fun _ => rfl) rfl 0 10 rfl rfl rfl rfl hl.1 rfl (Nat.le_of_ble_eq_true rfl) dX11_is_98 (fun r98 u H locs h hP hD hS => ?_)
                    try dsimp only at h
                    have hP : va_P G vwCl (w_X11_is Y h_t B_t t_thrown t_n t_modulus t_rows t_strands t_letters t_listedMany t_listN t_listWhat t_h t_orbit t_table) H := hP
                    have hD : va_D A (w_X11_is Y h_t B_t t_thrown t_n t_modulus t_rows t_strands t_letters t_listedMany t_listN t_listWhat t_h t_orbit t_table) := hD
                    refine mc_iV ⟨hx, hb, hml, hown, hts⟩ hK hE hA hP hD hS (c_X11_by l G Y tF H.size h_t B_t t_thrown t_n t_modulus t_rows t_strands t_letters t_listedMany t_listN t_listWhat t_table x6 r98 h) (cwV 2 hts gX11_is_X11_by rfl rfl rfl (by decide +kernel) ⟨Nat.le_trans (by decide) hRf, Nat.le_trans (by decide) hRl⟩) (fun u => (w_X11_is Y h_t B_t t_thrown t_n t_modulus t_rows t_strands t_letters t_listedMany t_listN t_listWhat t_h t_orbit t_table)) [0, 3] [1, 2] [2, 0, 1, 3] rfl rfl rfl rfl (by decide) (fun _ => rfl) rfl 0 10 rfl rfl rfl rfl hl.1 rfl (Nat.le_of_ble_eq_true rfl) dX11_is_101 (fun r101 u H locs h hP hD hS => ?_)
                    try dsimp only at h
                    have hP : va_P G vwCl (w_X11_is Y h_t B_t t_thrown t_n t_modulus t_rows t_strands t_letters t_listedMany t_listN t_listWhat t_h t_orbit t_table) H := hP
                    have hD : va_D A (w_X11_is Y h_t B_t t_thrown t_n t_modulus t_rows t_strands t_letters t_listedMany t_listN t_listWhat t_h t_orbit t_table) := hD
                    refine lv_iload hx hb dX11_is_104 (lv_at hl 8 rfl) ?_
                    obtain ⟨ht, hf⟩ := h
                    refine lv_icmp_ne (tgt := 113) hx hb dX11_is_106 (by decide) (fun c9 => ?_) (fun c9 => ?_)
                    · have h := ht c9
                      exact J113 x4 x7 x8 H locs ls h hP hD hS (lv_sub hl [0, 1, 2, 4, 5, 6, 7, 8] rfl)
                    · have h := hf c9
                      refine lv_iconst (v := 1) hx hb dX11_is_109 (by decide) ?_
                      refine lv_goto (tgt := 114) hx hb dX11_is_110 (by decide) ?_
                      exact J114 x4 x7 x8 (1 : Int32) H locs ls h hP hD hS (lv_sub hl [0, 1, 2, 4, 5, 6, 7, 8] rfl)
            exact L77 s0 x5 x6 I77 m77 hB77 _ x3 x4 (0 : Int32) (0 : Int32) H locs ls hI77 (Nat.lt_succ_self _) hP hD hS (lv_sub hl [3, 4, 2, 5, 6, 7, 8, 1, 0] rfl)
          have J69 : ∀ (x3 : Int32) (x4 : Int32) (x5 : Int32) (x6 : Int32) (H : Heap) (locs : List Loc) (ls : Array Slot), pX11_is_69 t_n t_table R39 K x1 t_thrown t_h t_orbit x3 x4 x5 x6 → va_P G vwCl (w_X11_is Y h_t B_t t_thrown t_n t_modulus t_rows t_strands t_letters t_listedMany t_listN t_listWhat t_h t_orbit t_table) H → va_D A (w_X11_is Y h_t B_t t_thrown t_n t_modulus t_rows t_strands t_letters t_listedMany t_listN t_listWhat t_h t_orbit t_table) → va_S A s.heap H locs → lv_has ls 9 [(0, .ref h_t), (1, .int x1), (3, .int x3), (4, .int x4), (5, .int x5), (6, .int x6)] → W p l e R s m args below meth c H locs 0 0 Q (F0 m 69 ls []) := by
            intro x3 x4 x5 x6 H locs ls h hP hD hS hl
            refine lv_iconst (v := 0) hx hb dX11_is_69 (by decide) ?_
            exact J70 x3 x4 x5 x6 (0 : Int32) H locs ls h hP hD hS (lv_sub hl [0, 1, 2, 3, 4, 5] rfl)
          refine lv_iload hx hb dX11_is_39 (lv_at hl 6 rfl) ?_
          refine lv_aload_n hx hb dX11_is_41 rfl (lv_at hl 0 rfl) ?_
          refine va_get (D := G) (ci := 10) (v := .int t_n) (C := RX11) (T := TX11) (N := 29) hx hb hts inX11 hown hK hP 0 rfl rfl 1 (by decide) hf9 (fun _ h9 => h9) rfl dX11_is_42 ?_
          obtain ⟨ht, hf⟩ := h
          refine lv_icmp_ge (tgt := 197) hx hb dX11_is_45 (by decide) (fun c9 => ?_) (fun c9 => ?_)
          · have h := ht c9
            refine lv_aload_n hx hb dX11_is_197 rfl (lv_at hl 0 rfl) ?_
            refine mc_iV ⟨hx, hb, hml, hown, hts⟩ hK hE hA hP hD hS (c_X11_findsOrbits l G Y tF H.size h_t B_t t_thrown t_n t_modulus t_rows t_strands t_letters t_listedMany t_listN t_listWhat t_h t_orbit t_table h) (cwV 0 hts gX11_is_X11_findsOrbits rfl rfl rfl (by decide +kernel) ⟨Nat.le_trans (by decide) hRf, Nat.le_trans (by decide) hRl⟩) (fun u => (w_X11_is Y h_t B_t t_thrown t_n t_modulus t_rows t_strands t_letters t_listedMany t_listN t_listWhat u.1 u.2 t_table)) [0, 1, 2, 3] [] [0, 1, 2, 3] rfl rfl rfl rfl (by decide) (fun _ => rfl) rfl 0 10 rfl rfl rfl rfl hl.1 rfl (Nat.le_of_ble_eq_true rfl) dX11_is_198 (fun r198 u H locs h hP hD hS => ?_)
            obtain ⟨t_h_198, t_orbit_198⟩ := u
            try dsimp only at h
            have hP : va_P G vwCl (w_X11_is Y h_t B_t t_thrown t_n t_modulus t_rows t_strands t_letters t_listedMany t_listN t_listWhat t_h_198 t_orbit_198 t_table) H := hP
            have hD : va_D A (w_X11_is Y h_t B_t t_thrown t_n t_modulus t_rows t_strands t_letters t_listedMany t_listN t_listWhat t_h_198 t_orbit_198 t_table) := hD
            refine lv_iconst (v := 1) hx hb dX11_is_201 (by decide) ?_
            obtain ⟨ht, hf⟩ := h
            refine lv_icmp_ne (tgt := 209) hx hb dX11_is_202 (by decide) (fun c9 => ?_) (fun c9 => ?_)
            · have h := ht c9
              refine lv_iconst (v := 0) hx hb dX11_is_209 (by decide) ?_
              exact J210 x1 x2 x3 x4 x5 (0 : Int32) t_thrown t_h_198 t_orbit_198 H locs ls h hP hD hS (lv_sub hl [1, 2, 3, 4, 5] rfl)
            · have h := hf c9
              refine lv_iconst (v := 1) hx hb dX11_is_205 (by decide) ?_
              refine lv_goto (tgt := 210) hx hb dX11_is_206 (by decide) ?_
              exact J210 x1 x2 x3 x4 x5 (1 : Int32) t_thrown t_h_198 t_orbit_198 H locs ls h hP hD hS (lv_sub hl [1, 2, 3, 4, 5] rfl)
          · have h := hf c9
            refine lv_iload_n hx hb dX11_is_48 rfl (lv_at hl 2 rfl) ?_
            obtain ⟨ht, hf⟩ := h
            refine lv_if_eq (tgt := 69) hx hb dX11_is_49 (by decide) (fun c9 => ?_) (fun c9 => ?_)
            · have h := ht c9
              exact J69 x3 x4 x5 x6 H locs ls h hP hD hS (lv_sub hl [0, 1, 3, 4, 5, 6] rfl)
            · have h := hf c9
              refine lv_aload_n hx hb dX11_is_52 rfl (lv_at hl 0 rfl) ?_
              refine lv_iload hx hb dX11_is_53 (lv_at hl 6 rfl) ?_
              refine lv_iload hx hb dX11_is_55 (lv_at hl 6 rfl) ?_
              refine mc_iV ⟨hx, hb, hml, hown, hts⟩ hK hE hA hP hD hS (c_X11_by l G Y tF H.size h_t B_t t_thrown t_n t_modulus t_rows t_strands t_letters t_listedMany t_listN t_listWhat t_table x6 x6 h) (cwV 2 hts gX11_is_X11_by rfl rfl rfl (by decide +kernel) ⟨Nat.le_trans (by decide) hRf, Nat.le_trans (by decide) hRl⟩) (fun u => (w_X11_is Y h_t B_t t_thrown t_n t_modulus t_rows t_strands t_letters t_listedMany t_listN t_listWhat t_h t_orbit t_table)) [0, 3] [1, 2] [2, 0, 1, 3] rfl rfl rfl rfl (by decide) (fun _ => rfl) rfl 0 10 rfl rfl rfl rfl hl.1 rfl (Nat.le_of_ble_eq_true rfl) dX11_is_57 (fun r57 u H locs h hP hD hS => ?_)
              try dsimp only at h
              have hP : va_P G vwCl (w_X11_is Y h_t B_t t_thrown t_n t_modulus t_rows t_strands t_letters t_listedMany t_listN t_listWhat t_h t_orbit t_table) H := hP
              have hD : va_D A (w_X11_is Y h_t B_t t_thrown t_n t_modulus t_rows t_strands t_letters t_listedMany t_listN t_listWhat t_h t_orbit t_table) := hD
              refine lv_iload hx hb dX11_is_60 (lv_at hl 6 rfl) ?_
              obtain ⟨ht, hf⟩ := h
              refine lv_icmp_ne (tgt := 69) hx hb dX11_is_62 (by decide) (fun c9 => ?_) (fun c9 => ?_)
              · have h := ht c9
                exact J69 x3 x4 x5 x6 H locs ls h hP hD hS (lv_sub hl [0, 1, 3, 4, 5, 6] rfl)
              · have h := hf c9
                refine lv_iconst (v := 1) hx hb dX11_is_65 (by decide) ?_
                refine lv_goto (tgt := 70) hx hb dX11_is_66 (by decide) ?_
                exact J70 x3 x4 x5 x6 (1 : Int32) H locs ls h hP hD hS (lv_sub hl [0, 1, 3, 4, 5, 6] rfl)
      exact L39 x1 (0 : Int32) t_h t_orbit I39 m39 hB39 _ (1 : Int32) (1 : Int32) (1 : Int32) (1 : Int32) (0 : Int32) H locs ls hI39 (Nat.lt_succ_self _) hP hD hS (lv_sub hl [5, 6, 4, 3, 2, 1, 0] rfl)
    · have h := hf c9
      refine lv_iconst (v := -1) hx hb dX11_is_24 (by decide) ?_
      exact hret (-1 : Int32) (0 : Int32) t_h t_orbit H locs ls _ hP hD hS h dX11_is_25

set_option maxHeartbeats 4000000 in
set_option maxRecDepth 100000 in
theorem c_X11_is (l : Launch) (G : va_G) (Y : Nat → ClassId) (tF sz : Nat) (h_t : Nat) (B_t : Nat → Nat) (t_thrown : Int32) (t_n : Int32) (t_modulus : Int32) (t_rows : Int32) (t_strands : Int32) (t_letters : Int32) (t_listedMany : Int32) (t_listN : Int32) (t_listWhat : Int32) (t_h : Nat → Int32) (t_orbit : Nat → Int32) (t_table : Nat → Int32) (x1 : Int32) {K : Int32 → Int32 → (Nat → Int32) → (Nat → Int32) → Prop} (h : pX11_is t_thrown t_n t_h t_orbit t_table x1 K) : Met l yX11_is wsX11_is ({ frames := 3, cells := 0, slots := 0, locals := 65 }) (PcM G Y tF sz (w_X11_is Y h_t B_t t_thrown t_n t_modulus t_rows t_strands t_letters t_listedMany t_listN t_listWhat t_h t_orbit t_table) [.ref h_t, .int x1]) (va_Qi (fun (r : Int32) (u : Int32 × (Nat → Int32) × (Nat → Int32)) => K r u.1 u.2.1 u.2.2) (fun u t => BM G Y (va_A (w_X11_is Y h_t B_t t_thrown t_n t_modulus t_rows t_strands t_letters t_listedMany t_listN t_listWhat t_h t_orbit t_table) sz) (w_X11_is Y h_t B_t u.1 t_n t_modulus t_rows t_strands t_letters t_listedMany t_listN t_listWhat u.2.1 u.2.2 t_table) t) (va_A (w_X11_is Y h_t B_t t_thrown t_n t_modulus t_rows t_strands t_letters t_listedMany t_listN t_listWhat t_h t_orbit t_table) sz)) 0 0 (va_A (w_X11_is Y h_t B_t t_thrown t_n t_modulus t_rows t_strands t_letters t_listedMany t_listN t_listWhat t_h t_orbit t_table) sz) := by
  refine Met.ofW (cc := cX11_is) (maxL := 9) (ret := (some .int)) (by decide +kernel) rfl ?_
  intro p e s m args below meth c s₁ B hml hv
  obtain ⟨rfl, hsz, hP, hK, hD0, hE⟩ := hv
  have hts := atoms_spec (ws := wsX11_is) B.pre
  have hown : s.vm.findClass RX11 = some m.cls := findClass_of_methodNamed B.named
  have hlocks := B.notSynchronized
  subst hsz
  have hD := hD0.self (sz := s.heap.size)
  exact wk_X11_is h_t B_t t_thrown t_n t_modulus t_rows t_strands t_letters t_listedMany t_listN t_listWhat t_h t_orbit t_table x1 B.exec B.bytes hml hown hts hK hE (fun q h => Or.inr h) (Nat.le_refl _) (Nat.le_refl _) (fun r t_thrown t_h t_orbit H locs ls pc hP hD hS hk hd => W.iret (v := r) B.exec B.bytes B.returns (fun t ht hW => ⟨⟨r, (t_thrown, t_h, t_orbit), rfl, hk, by rw [ht]; exact hP, va_K.moved hW.alike hK, hD⟩, hS.F ht⟩) hS.2.2 hd) hP hD h

abbrev w_X11_orbits (Y : Nat → ClassId) (h_t : Nat) (B_t : Nat → Nat) (t_thrown : Int32) (t_n : Int32) (t_modulus : Int32) (t_rows : Int32) (t_strands : Int32) (t_letters : Int32) (t_listedMany : Int32) (t_listN : Int32) (t_listWhat : Int32) (t_h : Nat → Int32) (t_orbit : Nat → Int32) (t_row : Nat → Int32) (t_table : Nat → Int32) : va_W := [(h_t, .inr (10, [.int t_thrown, .int t_n, .ref (B_t 2), .int t_modulus, .ref (B_t 4), .ref (B_t 5), .ref (B_t 6), .ref (B_t 7), .ref (B_t 8), .ref (B_t 9), .ref (B_t 10), .int t_rows, .ref (B_t 12), .ref (B_t 13), .ref (B_t 14), .ref (B_t 15), .ref (B_t 16), .ref (B_t 17), .ref (B_t 18), .ref (B_t 19), .int t_strands, .int t_letters, .ref (B_t 22), .ref (B_t 23), .ref (B_t 24), .ref (B_t 25), .int t_listedMany, .int t_listN, .int t_listWhat])), ((B_t 7), .inl (Y 0, 8, .inl t_h)), ((B_t 13), .inl (Y 0, 8, .inl t_orbit)), ((B_t 12), .inl (Y 0, 8, .inl t_row)), ((B_t 2), .inl (Y 0, 64, .inl t_table))]

set_option maxHeartbeats 4000000 in
set_option maxRecDepth 100000 in
theorem wk_X11_orbits {p : Program} {l : Launch} {e : Env} {R : Room} {s : State} {m : MethodId} {args : Array Value} {below : List Frame} {meth : Method} {c : Code} {Q : State → Prop} {G : va_G} {Y : Nat → ClassId} {tF : Nat} {A : Nat → Prop} (h_t : Nat) (B_t : Nat → Nat) (t_thrown : Int32) (t_n : Int32) (t_modulus : Int32) (t_rows : Int32) (t_strands : Int32) (t_letters : Int32) (t_listedMany : Int32) (t_listN : Int32) (t_listWhat : Int32) (t_h : Nat → Int32) (t_orbit : Nat → Int32) (t_row : Nat → Int32) (t_table : Nat → Int32) {K : Int32 → Int32 → Int32 → (Nat → Int32) → (Nat → Int32) → (Nat → Int32) → Prop} (hx : p.tables.exec = Jvm.exec) (hb : c.code = cX11_orbits) (hml : c.maxLocals = 3) (hown : s.vm.findClass RX11 = some m.cls) (hts : ∀ w ∈ wsX11_orbits, w.before args s = true) (hK : va_K G vwCl (tyL Y) s) (hE : Ev A tF s) (hA : ∀ q, s.heap.size ≤ q → A q) (hRf : 3 ≤ R.frames) (hRl : 65 ≤ R.locals) (hret : ∀ (r : Int32) (t_thrown : Int32) (t_rows : Int32) (t_h : Nat → Int32) (t_orbit : Nat → Int32) (t_row : Nat → Int32) (H : Heap) (locs : List Loc) (ls : Array Slot) (pc : Nat), va_P G vwCl (w_X11_orbits Y h_t B_t t_thrown t_n t_modulus t_rows t_strands t_letters t_listedMany t_listN t_listWhat t_h t_orbit t_row t_table) H → va_D A (w_X11_orbits Y h_t B_t t_thrown t_n t_modulus t_rows t_strands t_letters t_listedMany t_listN t_listWhat t_h t_orbit t_row t_table) → va_S A s.heap H locs → K r t_thrown t_rows t_h t_orbit t_row → decode cX11_orbits pc = .ok (.ireturn, 1) → W p l e R s m args below meth c H locs 0 0 Q (F0 m pc ls [.int r])) (hP : va_P G vwCl (w_X11_orbits Y h_t B_t t_thrown t_n t_modulus t_rows t_strands t_letters t_listedMany t_listN t_listWhat t_h t_orbit t_row t_table) s.heap) (hD : va_D A (w_X11_orbits Y h_t B_t t_thrown t_n t_modulus t_rows t_strands t_letters t_listedMany t_listN t_listWhat t_h t_orbit t_row t_table)) (h : pX11_orbits t_thrown t_n t_rows t_h t_orbit t_row t_table K) : W p l e R s m args below meth c s.heap [] 0 0 Q (entryFrame m ([.ref h_t] : List Value).toArray 3) := by
  have inX11 : ∀ w ∈ u_ws RX11 TX11 29, w ∈ wsX11_orbits := by decide +kernel
  have hf144 := hts (.fieldLink RX11 144 "RackBenchModel" "rows" "I") (by decide +kernel)
  have hf41 := hts (.fieldLink RX11 41 "RackBenchModel" "row" "[I") (by decide +kernel)
  have hf44 := hts (.fieldLink RX11 44 "RackBenchModel" "orbit" "[I") (by decide +kernel)
  have hf83 := hts (.fieldLink RX11 83 "RackBenchModel" "thrown" "I") (by decide +kernel)
  have hf9 := hts (.fieldLink RX11 9 "RackBenchModel" "n" "I") (by decide +kernel)
  have hl := lv_entry ([.ref h_t]) (n := 3) (Nat.le_of_ble_eq_true rfl)
  rw [lg_entry_eq]
  generalize (lg_sl ([.ref h_t]) ++ List.replicate (3 - (lg_sl ([.ref h_t])).length) Slot.unset).toArray = ls at hl ⊢
  have hl : lv_has ls 3 [(0, .ref h_t)] := hl
  generalize hH0 : s.heap = H at hP ⊢
  have hS : va_S A s.heap H [] := by rw [← hH0]; exact va_S.rf
  clear hH0
  generalize ([] : List Loc) = locs at hS ⊢
  refine lv_aload_n hx hb dX11_orbits_0 rfl (lv_at hl 0 rfl) ?_
  refine lv_iconst (v := 0) hx hb dX11_orbits_1 (by decide) ?_
  refine va_put (D := G) (ci := 10) (v := .int (0 : Int32)) (ty := .int) (C := RX11) (T := TX11) (N := 29) hx hb hts inX11 tyX11 tyX11_ok nmX11 hown hK hP hD hS 0 rfl rfl 0 (by decide) hf83 (fun _ h9 => h9) rfl (by decide +kernel) rfl rfl (Nat.le_of_ble_eq_true rfl) dX11_orbits_2 (fun H locs hP hD hS => ?_)
  have hP : va_P G vwCl (w_X11_orbits Y h_t B_t (0 : Int32) t_n t_modulus t_rows t_strands t_letters t_listedMany t_listN t_listWhat t_h t_orbit t_row t_table) H := hP
  have hD : va_D A (w_X11_orbits Y h_t B_t (0 : Int32) t_n t_modulus t_rows t_strands t_letters t_listedMany t_listN t_listWhat t_h t_orbit t_row t_table) := hD
  refine lv_aload_n hx hb dX11_orbits_5 rfl (lv_at hl 0 rfl) ?_
  refine mc_iV ⟨hx, hb, hml, hown, hts⟩ hK hE hA hP hD hS (c_X11_isRack l G Y tF H.size h_t B_t (0 : Int32) t_n t_modulus t_rows t_strands t_letters t_listedMany t_listN t_listWhat t_table h) (cwV 0 hts gX11_orbits_X11_isRack rfl rfl rfl (by decide +kernel) ⟨Nat.le_trans (by decide) hRf, Nat.le_trans (by decide) hRl⟩) (fun u => (w_X11_orbits Y h_t B_t (0 : Int32) t_n t_modulus t_rows t_strands t_letters t_listedMany t_listN t_listWhat t_h t_orbit t_row t_table)) [0, 4] [1, 2, 3] [3, 0, 1, 2, 4] rfl rfl rfl rfl (by decide) (fun _ => rfl) rfl 0 10 rfl rfl rfl rfl hl.1 rfl (Nat.le_of_ble_eq_true rfl) dX11_orbits_6 (fun r6 u H locs h hP hD hS => ?_)
  try dsimp only at h
  have hP : va_P G vwCl (w_X11_orbits Y h_t B_t (0 : Int32) t_n t_modulus t_rows t_strands t_letters t_listedMany t_listN t_listWhat t_h t_orbit t_row t_table) H := hP
  have hD : va_D A (w_X11_orbits Y h_t B_t (0 : Int32) t_n t_modulus t_rows t_strands t_letters t_listedMany t_listN t_listWhat t_h t_orbit t_row t_table) := hD
  obtain ⟨ht, hf⟩ := h
  refine lv_if_ne (tgt := 14) hx hb dX11_orbits_9 (by decide) (fun c9 => ?_) (fun c9 => ?_)
  · have h := ht c9
    refine lv_aload_n hx hb dX11_orbits_14 rfl (lv_at hl 0 rfl) ?_
    refine mc_iV ⟨hx, hb, hml, hown, hts⟩ hK hE hA hP hD hS (c_X11_findsOrbits l G Y tF H.size h_t B_t (0 : Int32) t_n t_modulus t_rows t_strands t_letters t_listedMany t_listN t_listWhat t_h t_orbit t_table h) (cwV 0 hts gX11_orbits_X11_findsOrbits rfl rfl rfl (by decide +kernel) ⟨Nat.le_trans (by decide) hRf, Nat.le_trans (by decide) hRl⟩) (fun u => (w_X11_orbits Y h_t B_t (0 : Int32) t_n t_modulus t_rows t_strands t_letters t_listedMany t_listN t_listWhat u.1 u.2 t_row t_table)) [0, 1, 2, 4] [3] [1, 2, 3, 0, 4] rfl rfl rfl rfl (by decide) (fun _ => rfl) rfl 0 10 rfl rfl rfl rfl hl.1 rfl (Nat.le_of_ble_eq_true rfl) dX11_orbits_15 (fun r15 u H locs h hP hD hS => ?_)
    obtain ⟨t_h_15, t_orbit_15⟩ := u
    try dsimp only at h
    have hP : va_P G vwCl (w_X11_orbits Y h_t B_t (0 : Int32) t_n t_modulus t_rows t_strands t_letters t_listedMany t_listN t_listWhat t_h_15 t_orbit_15 t_row t_table) H := hP
    have hD : va_D A (w_X11_orbits Y h_t B_t (0 : Int32) t_n t_modulus t_rows t_strands t_letters t_listedMany t_listN t_listWhat t_h_15 t_orbit_15 t_row t_table) := hD
    refine lv_istore_n (lv' := [(1, .int r15), (0, .ref h_t)]) hx hb dX11_orbits_18 rfl hl (by decide) rfl (fun ls hl => ?_)
    refine lv_aload_n hx hb dX11_orbits_19 rfl (lv_at hl 1 rfl) ?_
    refine lv_aload_n hx hb dX11_orbits_20 rfl (lv_at hl 1 rfl) ?_
    refine va_get (D := G) (ci := 10) (v := .int t_n) (C := RX11) (T := TX11) (N := 29) hx hb hts inX11 hown hK hP 0 rfl rfl 1 (by decide) hf9 (fun _ h9 => h9) rfl dX11_orbits_21 ?_
    refine va_put (D := G) (ci := 10) (v := .int t_n) (ty := .int) (C := RX11) (T := TX11) (N := 29) hx hb hts inX11 tyX11 tyX11_ok nmX11 hown hK hP hD hS 0 rfl rfl 11 (by decide) hf144 (fun _ h9 => h9) rfl (by decide +kernel) rfl rfl (Nat.le_of_ble_eq_true rfl) dX11_orbits_24 (fun H locs hP hD hS => ?_)
    have hP : va_P G vwCl (w_X11_orbits Y h_t B_t (0 : Int32) t_n t_modulus t_n t_strands t_letters t_listedMany t_listN t_listWhat t_h_15 t_orbit_15 t_row t_table) H := hP
    have hD : va_D A (w_X11_orbits Y h_t B_t (0 : Int32) t_n t_modulus t_n t_strands t_letters t_listedMany t_listN t_listWhat t_h_15 t_orbit_15 t_row t_table) := hD
    refine lv_iconst (v := 0) hx hb dX11_orbits_27 (by decide) ?_
    refine lv_istore_n (lv' := [(2, .int (0 : Int32)), (1, .int r15), (0, .ref h_t)]) hx hb dX11_orbits_28 rfl hl (by decide) rfl (fun ls hl => ?_)
    obtain ⟨I29, m29, hI29, hB29⟩ := h
    have L29 : ∀ (x1 : Int32) (t_thrown : Int32) (t_rows : Int32) (t_h : Nat → Int32) (t_orbit : Nat → Int32) (I29 : Int32 → (Nat → Int32) → Prop) (m29 : Int32 → (Nat → Int32) → Nat), (∀ (x2 : Int32) (t_row : Nat → Int32), I29 x2 t_row → pX11_orbits_29 t_n t_table K x1 t_thrown t_rows t_h t_orbit x2 t_row (fun x2' t_row' => I29 x2' t_row' ∧ m29 x2' t_row' < m29 x2 t_row)) → ∀ (n : Nat) (x2 : Int32) (t_row : Nat → Int32) (H : Heap) (locs : List Loc) (ls : Array Slot), I29 x2 t_row → m29 x2 t_row < n → va_P G vwCl (w_X11_orbits Y h_t B_t t_thrown t_n t_modulus t_rows t_strands t_letters t_listedMany t_listN t_listWhat t_h t_orbit t_row t_table) H → va_D A (w_X11_orbits Y h_t B_t t_thrown t_n t_modulus t_rows t_strands t_letters t_listedMany t_listN t_listWhat t_h t_orbit t_row t_table) → va_S A s.heap H locs → lv_has ls 3 [(0, .ref h_t), (1, .int x1), (2, .int x2)] → W p l e R s m args below meth c H locs 0 0 Q (F0 m 29 ls []) := by
      intro x1 t_thrown t_rows t_h t_orbit I29 m29 hB29 n
      induction n with
      | zero => intro x2 t_row H locs ls _ hm; exact absurd hm (Nat.not_lt_zero _)
      | succ n ih =>
        intro x2 t_row H locs ls hI hm hP hD hS hl
        obtain ⟨R29, h, rec29⟩ : ∃ R29 : Int32 → (Nat → Int32) → Prop, pX11_orbits_29 t_n t_table K x1 t_thrown t_rows t_h t_orbit x2 t_row R29 ∧ ∀ (x2 : Int32) (t_row : Nat → Int32) (H : Heap) (locs : List Loc) (ls : Array Slot), R29 x2 t_row → va_P G vwCl (w_X11_orbits Y h_t B_t t_thrown t_n t_modulus t_rows t_strands t_letters t_listedMany t_listN t_listWhat t_h t_orbit t_row t_table) H → va_D A (w_X11_orbits Y h_t B_t t_thrown t_n t_modulus t_rows t_strands t_letters t_listedMany t_listN t_listWhat t_h t_orbit t_row t_table) → va_S A s.heap H locs → lv_has ls 3 [(0, .ref h_t), (1, .int x1), (2, .int x2)] → W p l e R s m args below meth c H locs 0 0 Q (F0 m 29 ls []) := ⟨_, hB29 x2 t_row hI, fun x2 t_row H locs ls hh hP hD hS hl => ih x2 t_row H locs ls hh.1 (Nat.lt_of_lt_of_le hh.2 (Nat.le_of_lt_succ hm)) hP hD hS hl⟩
        refine lv_iload_n hx hb dX11_orbits_29 rfl (lv_at hl 2 rfl) ?_
        refine lv_aload_n hx hb dX11_orbits_30 rfl (lv_at hl 0 rfl) ?_
        refine va_get (D := G) (ci := 10) (v := .int t_n) (C := RX11) (T := TX11) (N := 29) hx hb hts inX11 hown hK hP 0 rfl rfl 1 (by decide) hf9 (fun _ h9 => h9) rfl dX11_orbits_31 ?_
        obtain ⟨ht, hf⟩ := h
        refine lv_icmp_ge (tgt := 55) hx hb dX11_orbits_34 (by decide) (fun c9 => ?_) (fun c9 => ?_)
        · have h := ht c9
          refine lv_iload_n hx hb dX11_orbits_55 rfl (lv_at hl 1 rfl) ?_
          exact hret x1 t_thrown t_rows t_h t_orbit t_row H locs ls _ hP hD hS h dX11_orbits_56
        · have h := hf c9
          refine lv_aload_n hx hb dX11_orbits_37 rfl (lv_at hl 0 rfl) ?_
          refine va_get (D := G) (ci := 10) (v := .ref (B_t 12)) (C := RX11) (T := TX11) (N := 29) hx hb hts inX11 hown hK hP 0 rfl rfl 12 (by decide) hf41 (fun _ h9 => h9) rfl dX11_orbits_38 ?_
          refine lv_iload_n hx hb dX11_orbits_41 rfl (lv_at hl 2 rfl) ?_
          refine lv_aload_n hx hb dX11_orbits_42 rfl (lv_at hl 0 rfl) ?_
          refine va_get (D := G) (ci := 10) (v := .ref (B_t 13)) (C := RX11) (T := TX11) (N := 29) hx hb hts inX11 hown hK hP 0 rfl rfl 13 (by decide) hf44 (fun _ h9 => h9) rfl dX11_orbits_43 ?_
          refine lv_iload_n hx hb dX11_orbits_46 rfl (lv_at hl 2 rfl) ?_
          obtain ⟨hin, h⟩ := h
          refine va_iald hx hb hK hP 2 0 rfl rfl hin dX11_orbits_47 ?_
          obtain ⟨hin, h⟩ := h
          refine va_iast hx hb hK hP hD hS 3 0 rfl rfl hin dX11_orbits_48 (fun H locs hP hD hS => ?_)
          have hP : va_P G vwCl (w_X11_orbits Y h_t B_t t_thrown t_n t_modulus t_rows t_strands t_letters t_listedMany t_listN t_listWhat t_h t_orbit (upd t_row (Int32.toNatClampNeg x2) (t_orbit (Int32.toNatClampNeg x2))) t_table) H := hP
          have hD : va_D A (w_X11_orbits Y h_t B_t t_thrown t_n t_modulus t_rows t_strands t_letters t_listedMany t_listN t_listWhat t_h t_orbit (upd t_row (Int32.toNatClampNeg x2) (t_orbit (Int32.toNatClampNeg x2))) t_table) := hD
          refine lv_iinc (v := (x2 + 1)) (lv' := [(2, .int (x2 + 1)), (0, .ref h_t), (1, .int x1)]) hx hb dX11_orbits_49 hl (k := 2) rfl rfl (by decide) rfl (fun ls hl => ?_)
          refine lv_goto (tgt := 29) hx hb dX11_orbits_52 (by decide) ?_
          exact rec29 (x2 + 1) (upd t_row (Int32.toNatClampNeg x2) (t_orbit (Int32.toNatClampNeg x2))) H locs ls h hP hD hS (lv_sub hl [1, 2, 0] rfl)
    exact L29 r15 (0 : Int32) t_n t_h_15 t_orbit_15 I29 m29 hB29 _ (0 : Int32) t_row H locs ls hI29 (Nat.lt_succ_self _) hP hD hS (lv_sub hl [2, 1, 0] rfl)
  · have h := hf c9
    refine lv_iconst (v := -1) hx hb dX11_orbits_12 (by decide) ?_
    exact hret (-1 : Int32) (0 : Int32) t_rows t_h t_orbit t_row H locs ls _ hP hD hS h dX11_orbits_13

set_option maxHeartbeats 4000000 in
set_option maxRecDepth 100000 in
theorem c_X11_orbits (l : Launch) (G : va_G) (Y : Nat → ClassId) (tF sz : Nat) (h_t : Nat) (B_t : Nat → Nat) (t_thrown : Int32) (t_n : Int32) (t_modulus : Int32) (t_rows : Int32) (t_strands : Int32) (t_letters : Int32) (t_listedMany : Int32) (t_listN : Int32) (t_listWhat : Int32) (t_h : Nat → Int32) (t_orbit : Nat → Int32) (t_row : Nat → Int32) (t_table : Nat → Int32) {K : Int32 → Int32 → Int32 → (Nat → Int32) → (Nat → Int32) → (Nat → Int32) → Prop} (h : pX11_orbits t_thrown t_n t_rows t_h t_orbit t_row t_table K) : Met l yX11_orbits wsX11_orbits ({ frames := 3, cells := 0, slots := 0, locals := 65 }) (PcM G Y tF sz (w_X11_orbits Y h_t B_t t_thrown t_n t_modulus t_rows t_strands t_letters t_listedMany t_listN t_listWhat t_h t_orbit t_row t_table) [.ref h_t]) (va_Qi (fun (r : Int32) (u : Int32 × Int32 × (Nat → Int32) × (Nat → Int32) × (Nat → Int32)) => K r u.1 u.2.1 u.2.2.1 u.2.2.2.1 u.2.2.2.2) (fun u t => BM G Y (va_A (w_X11_orbits Y h_t B_t t_thrown t_n t_modulus t_rows t_strands t_letters t_listedMany t_listN t_listWhat t_h t_orbit t_row t_table) sz) (w_X11_orbits Y h_t B_t u.1 t_n t_modulus u.2.1 t_strands t_letters t_listedMany t_listN t_listWhat u.2.2.1 u.2.2.2.1 u.2.2.2.2 t_table) t) (va_A (w_X11_orbits Y h_t B_t t_thrown t_n t_modulus t_rows t_strands t_letters t_listedMany t_listN t_listWhat t_h t_orbit t_row t_table) sz)) 0 0 (va_A (w_X11_orbits Y h_t B_t t_thrown t_n t_modulus t_rows t_strands t_letters t_listedMany t_listN t_listWhat t_h t_orbit t_row t_table) sz) := by
  refine Met.ofW (cc := cX11_orbits) (maxL := 3) (ret := (some .int)) (by decide +kernel) rfl ?_
  intro p e s m args below meth c s₁ B hml hv
  obtain ⟨rfl, hsz, hP, hK, hD0, hE⟩ := hv
  have hts := atoms_spec (ws := wsX11_orbits) B.pre
  have hown : s.vm.findClass RX11 = some m.cls := findClass_of_methodNamed B.named
  have hlocks := B.notSynchronized
  subst hsz
  have hD := hD0.self (sz := s.heap.size)
  exact wk_X11_orbits h_t B_t t_thrown t_n t_modulus t_rows t_strands t_letters t_listedMany t_listN t_listWhat t_h t_orbit t_row t_table B.exec B.bytes hml hown hts hK hE (fun q h => Or.inr h) (Nat.le_refl _) (Nat.le_refl _) (fun r t_thrown t_rows t_h t_orbit t_row H locs ls pc hP hD hS hk hd => W.iret (v := r) B.exec B.bytes B.returns (fun t ht hW => ⟨⟨r, (t_thrown, t_rows, t_h, t_orbit, t_row), rfl, hk, by rw [ht]; exact hP, va_K.moved hW.alike hK, hD⟩, hS.F ht⟩) hS.2.2 hd) hP hD h

abbrev w_X11_moves (Y : Nat → ClassId) (h_t : Nat) (B_t : Nat → Nat) (t_thrown : Int32) (t_n : Int32) (t_modulus : Int32) (t_rows : Int32) (t_strands : Int32) (t_letters : Int32) (t_listedMany : Int32) (t_listN : Int32) (t_listWhat : Int32) (t_f : Nat → Int32) (t_g : Nat → Int32) (t_met : Nat → Int32) (t_queue : Nat → Int32) (t_table : Nat → Int32) : va_W := [(h_t, .inr (10, [.int t_thrown, .int t_n, .ref (B_t 2), .int t_modulus, .ref (B_t 4), .ref (B_t 5), .ref (B_t 6), .ref (B_t 7), .ref (B_t 8), .ref (B_t 9), .ref (B_t 10), .int t_rows, .ref (B_t 12), .ref (B_t 13), .ref (B_t 14), .ref (B_t 15), .ref (B_t 16), .ref (B_t 17), .ref (B_t 18), .ref (B_t 19), .int t_strands, .int t_letters, .ref (B_t 22), .ref (B_t 23), .ref (B_t 24), .ref (B_t 25), .int t_listedMany, .int t_listN, .int t_listWhat])), ((B_t 5), .inl (Y 0, 8, .inl t_f)), ((B_t 6), .inl (Y 0, 8, .inl t_g)), ((B_t 14), .inl (Y 1, 40320, .inl t_met)), ((B_t 15), .inl (Y 0, 40320, .inl t_queue)), ((B_t 2), .inl (Y 0, 64, .inl t_table))]

set_option maxHeartbeats 4000000 in
set_option maxRecDepth 100000 in
theorem wk_X11_moves {p : Program} {l : Launch} {e : Env} {R : Room} {s : State} {m : MethodId} {args : Array Value} {below : List Frame} {meth : Method} {c : Code} {Q : State → Prop} {G : va_G} {Y : Nat → ClassId} {tF : Nat} {A : Nat → Prop} (h_t : Nat) (B_t : Nat → Nat) (t_thrown : Int32) (t_n : Int32) (t_modulus : Int32) (t_rows : Int32) (t_strands : Int32) (t_letters : Int32) (t_listedMany : Int32) (t_listN : Int32) (t_listWhat : Int32) (t_f : Nat → Int32) (t_g : Nat → Int32) (t_met : Nat → Int32) (t_queue : Nat → Int32) (t_table : Nat → Int32) {K : Int32 → Int32 → (Nat → Int32) → (Nat → Int32) → (Nat → Int32) → (Nat → Int32) → Prop} (hx : p.tables.exec = Jvm.exec) (hb : c.code = cX11_moves) (hml : c.maxLocals = 6) (hown : s.vm.findClass RX11 = some m.cls) (hts : ∀ w ∈ wsX11_moves, w.before args s = true) (hK : va_K G vwCl (tyL Y) s) (hE : Ev A tF s) (hA : ∀ q, s.heap.size ≤ q → A q) (hRf : 12 ≤ R.frames) (hRl : 248 ≤ R.locals) (hret : ∀ (r : Int32) (t_thrown : Int32) (t_f : Nat → Int32) (t_g : Nat → Int32) (t_met : Nat → Int32) (t_queue : Nat → Int32) (H : Heap) (locs : List Loc) (ls : Array Slot) (pc : Nat), va_P G vwCl (w_X11_moves Y h_t B_t t_thrown t_n t_modulus t_rows t_strands t_letters t_listedMany t_listN t_listWhat t_f t_g t_met t_queue t_table) H → va_D A (w_X11_moves Y h_t B_t t_thrown t_n t_modulus t_rows t_strands t_letters t_listedMany t_listN t_listWhat t_f t_g t_met t_queue t_table) → va_S A s.heap H locs → K r t_thrown t_f t_g t_met t_queue → decode cX11_moves pc = .ok (.ireturn, 1) → W p l e R s m args below meth c H locs 0 0 Q (F0 m pc ls [.int r])) (hP : va_P G vwCl (w_X11_moves Y h_t B_t t_thrown t_n t_modulus t_rows t_strands t_letters t_listedMany t_listN t_listWhat t_f t_g t_met t_queue t_table) s.heap) (hD : va_D A (w_X11_moves Y h_t B_t t_thrown t_n t_modulus t_rows t_strands t_letters t_listedMany t_listN t_listWhat t_f t_g t_met t_queue t_table)) (h : pX11_moves t_thrown t_n t_f t_g t_met t_queue t_table K) : W p l e R s m args below meth c s.heap [] 0 0 Q (entryFrame m ([.ref h_t] : List Value).toArray 6) := by
  have inX11 : ∀ w ∈ u_ws RX11 TX11 29, w ∈ wsX11_moves := by decide +kernel
  have hf23 := hts (.fieldLink RX11 23 "RackBenchModel" "f" "[I") (by decide +kernel)
  have hf26 := hts (.fieldLink RX11 26 "RackBenchModel" "g" "[I") (by decide +kernel)
  have hf48 := hts (.fieldLink RX11 48 "RackBenchModel" "met" "[Z") (by decide +kernel)
  have hf52 := hts (.fieldLink RX11 52 "RackBenchModel" "queue" "[I") (by decide +kernel)
  have hf83 := hts (.fieldLink RX11 83 "RackBenchModel" "thrown" "I") (by decide +kernel)
  have hf9 := hts (.fieldLink RX11 9 "RackBenchModel" "n" "I") (by decide +kernel)
  have hl := lv_entry ([.ref h_t]) (n := 6) (Nat.le_of_ble_eq_true rfl)
  rw [lg_entry_eq]
  generalize (lg_sl ([.ref h_t]) ++ List.replicate (6 - (lg_sl ([.ref h_t])).length) Slot.unset).toArray = ls at hl ⊢
  have hl : lv_has ls 6 [(0, .ref h_t)] := hl
  generalize hH0 : s.heap = H at hP ⊢
  have hS : va_S A s.heap H [] := by rw [← hH0]; exact va_S.rf
  clear hH0
  generalize ([] : List Loc) = locs at hS ⊢
  refine lv_aload_n hx hb dX11_moves_0 rfl (lv_at hl 0 rfl) ?_
  refine lv_iconst (v := 0) hx hb dX11_moves_1 (by decide) ?_
  refine va_put (D := G) (ci := 10) (v := .int (0 : Int32)) (ty := .int) (C := RX11) (T := TX11) (N := 29) hx hb hts inX11 tyX11 tyX11_ok nmX11 hown hK hP hD hS 0 rfl rfl 0 (by decide) hf83 (fun _ h9 => h9) rfl (by decide +kernel) rfl rfl (Nat.le_of_ble_eq_true rfl) dX11_moves_2 (fun H locs hP hD hS => ?_)
  have hP : va_P G vwCl (w_X11_moves Y h_t B_t (0 : Int32) t_n t_modulus t_rows t_strands t_letters t_listedMany t_listN t_listWhat t_f t_g t_met t_queue t_table) H := hP
  have hD : va_D A (w_X11_moves Y h_t B_t (0 : Int32) t_n t_modulus t_rows t_strands t_letters t_listedMany t_listN t_listWhat t_f t_g t_met t_queue t_table) := hD
  refine lv_aload_n hx hb dX11_moves_5 rfl (lv_at hl 0 rfl) ?_
  refine mc_iV ⟨hx, hb, hml, hown, hts⟩ hK hE hA hP hD hS (c_X11_isRack l G Y tF H.size h_t B_t (0 : Int32) t_n t_modulus t_rows t_strands t_letters t_listedMany t_listN t_listWhat t_table h) (cwV 0 hts gX11_moves_X11_isRack rfl rfl rfl (by decide +kernel) ⟨Nat.le_trans (by decide) hRf, Nat.le_trans (by decide) hRl⟩) (fun u => (w_X11_moves Y h_t B_t (0 : Int32) t_n t_modulus t_rows t_strands t_letters t_listedMany t_listN t_listWhat t_f t_g t_met t_queue t_table)) [0, 5] [1, 2, 3, 4] [4, 0, 1, 2, 3, 5] rfl rfl rfl rfl (by decide) (fun _ => rfl) rfl 0 10 rfl rfl rfl rfl hl.1 rfl (Nat.le_of_ble_eq_true rfl) dX11_moves_6 (fun r6 u H locs h hP hD hS => ?_)
  try dsimp only at h
  have hP : va_P G vwCl (w_X11_moves Y h_t B_t (0 : Int32) t_n t_modulus t_rows t_strands t_letters t_listedMany t_listN t_listWhat t_f t_g t_met t_queue t_table) H := hP
  have hD : va_D A (w_X11_moves Y h_t B_t (0 : Int32) t_n t_modulus t_rows t_strands t_letters t_listedMany t_listN t_listWhat t_f t_g t_met t_queue t_table) := hD
  obtain ⟨ht, hf⟩ := h
  refine lv_if_ne (tgt := 14) hx hb dX11_moves_9 (by decide) (fun c9 => ?_) (fun c9 => ?_)
  · have h := ht c9
    refine lv_aload_n hx hb dX11_moves_14 rfl (lv_at hl 0 rfl) ?_
    refine va_get (D := G) (ci := 10) (v := .int t_n) (C := RX11) (T := TX11) (N := 29) hx hb hts inX11 hown hK hP 0 rfl rfl 1 (by decide) hf9 (fun _ h9 => h9) rfl dX11_moves_15 ?_
    refine mc_iS ⟨hx, hb, hml, hown, hts⟩ hK hE hA hP hD hS (c_X11_factorial 10 l G Y tF H.size t_n h) (va_cwS 1 hts gX11_moves_X11_factorial rfl rfl rfl (by decide +kernel) ⟨Nat.le_trans (by decide) hRf, Nat.le_trans (by decide) hRl⟩) (fun u => (w_X11_moves Y h_t B_t (0 : Int32) t_n t_modulus t_rows t_strands t_letters t_listedMany t_listN t_listWhat t_f t_g t_met t_queue t_table)) [] [0, 1, 2, 3, 4, 5] [0, 1, 2, 3, 4, 5] rfl rfl rfl rfl (by decide) (fun _ => rfl) rfl rfl hl.1 rfl (Nat.le_of_ble_eq_true rfl) dX11_moves_18 (fun r18 u H locs h hP hD hS => ?_)
    try dsimp only at h
    have hP : va_P G vwCl (w_X11_moves Y h_t B_t (0 : Int32) t_n t_modulus t_rows t_strands t_letters t_listedMany t_listN t_listWhat t_f t_g t_met t_queue t_table) H := hP
    have hD : va_D A (w_X11_moves Y h_t B_t (0 : Int32) t_n t_modulus t_rows t_strands t_letters t_listedMany t_listN t_listWhat t_f t_g t_met t_queue t_table) := hD
    refine lv_istore_n (lv' := [(1, .int r18), (0, .ref h_t)]) hx hb dX11_moves_21 rfl hl (by decide) rfl (fun ls hl => ?_)
    refine lv_iconst (v := 0) hx hb dX11_moves_22 (by decide) ?_
    refine lv_istore_n (lv' := [(2, .int (0 : Int32)), (1, .int r18), (0, .ref h_t)]) hx hb dX11_moves_23 rfl hl (by decide) rfl (fun ls hl => ?_)
    obtain ⟨I24, m24, hI24, hB24⟩ := h
    have L24 : ∀ (x1 : Int32) (t_thrown : Int32) (t_f : Nat → Int32) (t_g : Nat → Int32) (t_queue : Nat → Int32) (I24 : Int32 → (Nat → Int32) → Prop) (m24 : Int32 → (Nat → Int32) → Nat), (∀ (x2 : Int32) (t_met : Nat → Int32), I24 x2 t_met → pX11_moves_24 t_n t_table K x1 t_thrown t_f t_g t_queue x2 t_met (fun x2' t_met' => I24 x2' t_met' ∧ m24 x2' t_met' < m24 x2 t_met)) → ∀ (n : Nat) (x2 : Int32) (t_met : Nat → Int32) (H : Heap) (locs : List Loc) (ls : Array Slot), I24 x2 t_met → m24 x2 t_met < n → va_P G vwCl (w_X11_moves Y h_t B_t t_thrown t_n t_modulus t_rows t_strands t_letters t_listedMany t_listN t_listWhat t_f t_g t_met t_queue t_table) H → va_D A (w_X11_moves Y h_t B_t t_thrown t_n t_modulus t_rows t_strands t_letters t_listedMany t_listN t_listWhat t_f t_g t_met t_queue t_table) → va_S A s.heap H locs → lv_has ls 6 [(0, .ref h_t), (1, .int x1), (2, .int x2)] → W p l e R s m args below meth c H locs 0 0 Q (F0 m 24 ls []) := by
      intro x1 t_thrown t_f t_g t_queue I24 m24 hB24 n
      induction n with
      | zero => intro x2 t_met H locs ls _ hm; exact absurd hm (Nat.not_lt_zero _)
      | succ n ih =>
        intro x2 t_met H locs ls hI hm hP hD hS hl
        obtain ⟨R24, h, rec24⟩ : ∃ R24 : Int32 → (Nat → Int32) → Prop, pX11_moves_24 t_n t_table K x1 t_thrown t_f t_g t_queue x2 t_met R24 ∧ ∀ (x2 : Int32) (t_met : Nat → Int32) (H : Heap) (locs : List Loc) (ls : Array Slot), R24 x2 t_met → va_P G vwCl (w_X11_moves Y h_t B_t t_thrown t_n t_modulus t_rows t_strands t_letters t_listedMany t_listN t_listWhat t_f t_g t_met t_queue t_table) H → va_D A (w_X11_moves Y h_t B_t t_thrown t_n t_modulus t_rows t_strands t_letters t_listedMany t_listN t_listWhat t_f t_g t_met t_queue t_table) → va_S A s.heap H locs → lv_has ls 6 [(0, .ref h_t), (1, .int x1), (2, .int x2)] → W p l e R s m args below meth c H locs 0 0 Q (F0 m 24 ls []) := ⟨_, hB24 x2 t_met hI, fun x2 t_met H locs ls hh hP hD hS hl => ih x2 t_met H locs ls hh.1 (Nat.lt_of_lt_of_le hh.2 (Nat.le_of_lt_succ hm)) hP hD hS hl⟩
        refine lv_iload_n hx hb dX11_moves_24 rfl (lv_at hl 2 rfl) ?_
        refine lv_iload_n hx hb dX11_moves_25 rfl (lv_at hl 1 rfl) ?_
        obtain ⟨ht, hf⟩ := h
        refine lv_icmp_ge (tgt := 42) hx hb dX11_moves_26 (by decide) (fun c9 => ?_) (fun c9 => ?_)
        · have h := ht c9
          refine lv_aload_n hx hb dX11_moves_42 rfl (lv_at hl 0 rfl) ?_
          refine va_get (D := G) (ci := 10) (v := .ref (B_t 14)) (C := RX11) (T := TX11) (N := 29) hx hb hts inX11 hown hK hP 0 rfl rfl 14 (by decide) hf48 (fun _ h9 => h9) rfl dX11_moves_43 ?_
          refine lv_iconst (v := 0) hx hb dX11_moves_46 (by decide) ?_
          refine lv_iconst (v := 1) hx hb dX11_moves_47 (by decide) ?_
          obtain ⟨hin, h⟩ := h
          refine va_zast hx hb hK hP hD hS 3 1 rfl rfl hin dX11_moves_48 (fun H locs hP hD hS => ?_)
          have hP : va_P G vwCl (w_X11_moves Y h_t B_t t_thrown t_n t_modulus t_rows t_strands t_letters t_listedMany t_listN t_listWhat t_f t_g (upd t_met (Int32.toNatClampNeg (0 : Int32)) (vp_nar .boolean (1 : Int32))) t_queue t_table) H := hP
          have hD : va_D A (w_X11_moves Y h_t B_t t_thrown t_n t_modulus t_rows t_strands t_letters t_listedMany t_listN t_listWhat t_f t_g (upd t_met (Int32.toNatClampNeg (0 : Int32)) (vp_nar .boolean (1 : Int32))) t_queue t_table) := hD
          refine lv_aload_n hx hb dX11_moves_49 rfl (lv_at hl 0 rfl) ?_
          refine va_get (D := G) (ci := 10) (v := .ref (B_t 15)) (C := RX11) (T := TX11) (N := 29) hx hb hts inX11 hown hK hP 0 rfl rfl 15 (by decide) hf52 (fun _ h9 => h9) rfl dX11_moves_50 ?_
          refine lv_iconst (v := 0) hx hb dX11_moves_53 (by decide) ?_
          refine lv_iconst (v := 0) hx hb dX11_moves_54 (by decide) ?_
          obtain ⟨hin, h⟩ := h
          refine va_iast hx hb hK hP hD hS 4 0 rfl rfl hin dX11_moves_55 (fun H locs hP hD hS => ?_)
          have hP : va_P G vwCl (w_X11_moves Y h_t B_t t_thrown t_n t_modulus t_rows t_strands t_letters t_listedMany t_listN t_listWhat t_f t_g (upd t_met (Int32.toNatClampNeg (0 : Int32)) (vp_nar .boolean (1 : Int32))) (upd t_queue (Int32.toNatClampNeg (0 : Int32)) (0 : Int32)) t_table) H := hP
          have hD : va_D A (w_X11_moves Y h_t B_t t_thrown t_n t_modulus t_rows t_strands t_letters t_listedMany t_listN t_listWhat t_f t_g (upd t_met (Int32.toNatClampNeg (0 : Int32)) (vp_nar .boolean (1 : Int32))) (upd t_queue (Int32.toNatClampNeg (0 : Int32)) (0 : Int32)) t_table) := hD
          refine lv_iconst (v := 1) hx hb dX11_moves_56 (by decide) ?_
          refine lv_istore_n (lv' := [(2, .int (1 : Int32)), (0, .ref h_t), (1, .int x1)]) hx hb dX11_moves_57 rfl hl (by decide) rfl (fun ls hl => ?_)
          refine lv_iconst (v := 0) hx hb dX11_moves_58 (by decide) ?_
          refine lv_istore_n (lv' := [(3, .int (0 : Int32)), (2, .int (1 : Int32)), (0, .ref h_t), (1, .int x1)]) hx hb dX11_moves_59 rfl hl (by decide) rfl (fun ls hl => ?_)
          obtain ⟨I60, m60, hI60, hB60⟩ := h
          have L60 : ∀ (t_thrown : Int32) (I60 : Int32 → Int32 → (Nat → Int32) → (Nat → Int32) → (Nat → Int32) → (Nat → Int32) → Prop) (m60 : Int32 → Int32 → (Nat → Int32) → (Nat → Int32) → (Nat → Int32) → (Nat → Int32) → Nat), (∀ (x2 : Int32) (x3 : Int32) (t_f : Nat → Int32) (t_g : Nat → Int32) (t_met : Nat → Int32) (t_queue : Nat → Int32), I60 x2 x3 t_f t_g t_met t_queue → pX11_moves_60 t_n t_table R24 K t_thrown x2 x3 t_f t_g t_met t_queue (fun x2' x3' t_f' t_g' t_met' t_queue' => I60 x2' x3' t_f' t_g' t_met' t_queue' ∧ m60 x2' x3' t_f' t_g' t_met' t_queue' < m60 x2 x3 t_f t_g t_met t_queue)) → ∀ (n : Nat) (x2 : Int32) (x3 : Int32) (t_f : Nat → Int32) (t_g : Nat → Int32) (t_met : Nat → Int32) (t_queue : Nat → Int32) (H : Heap) (locs : List Loc) (ls : Array Slot), I60 x2 x3 t_f t_g t_met t_queue → m60 x2 x3 t_f t_g t_met t_queue < n → va_P G vwCl (w_X11_moves Y h_t B_t t_thrown t_n t_modulus t_rows t_strands t_letters t_listedMany t_listN t_listWhat t_f t_g t_met t_queue t_table) H → va_D A (w_X11_moves Y h_t B_t t_thrown t_n t_modulus t_rows t_strands t_letters t_listedMany t_listN t_listWhat t_f t_g t_met t_queue t_table) → va_S A s.heap H locs → lv_has ls 6 [(0, .ref h_t), (2, .int x2), (3, .int x3)] → W p l e R s m args below meth c H locs 0 0 Q (F0 m 60 ls []) := by
            intro t_thrown I60 m60 hB60 n
            induction n with
            | zero => intro x2 x3 t_f t_g t_met t_queue H locs ls _ hm; exact absurd hm (Nat.not_lt_zero _)
            | succ n ih =>
              intro x2 x3 t_f t_g t_met t_queue H locs ls hI hm hP hD hS hl
              obtain ⟨R60, h, rec60⟩ : ∃ R60 : Int32 → Int32 → (Nat → Int32) → (Nat → Int32) → (Nat → Int32) → (Nat → Int32) → Prop, pX11_moves_60 t_n t_table R24 K t_thrown x2 x3 t_f t_g t_met t_queue R60 ∧ ∀ (x2 : Int32) (x3 : Int32) (t_f : Nat → Int32) (t_g : Nat → Int32) (t_met : Nat → Int32) (t_queue : Nat → Int32) (H : Heap) (locs : List Loc) (ls : Array Slot), R60 x2 x3 t_f t_g t_met t_queue → va_P G vwCl (w_X11_moves Y h_t B_t t_thrown t_n t_modulus t_rows t_strands t_letters t_listedMany t_listN t_listWhat t_f t_g t_met t_queue t_table) H → va_D A (w_X11_moves Y h_t B_t t_thrown t_n t_modulus t_rows t_strands t_letters t_listedMany t_listN t_listWhat t_f t_g t_met t_queue t_table) → va_S A s.heap H locs → lv_has ls 6 [(0, .ref h_t), (2, .int x2), (3, .int x3)] → W p l e R s m args below meth c H locs 0 0 Q (F0 m 60 ls []) := ⟨_, hB60 x2 x3 t_f t_g t_met t_queue hI, fun x2 x3 t_f t_g t_met t_queue H locs ls hh hP hD hS hl => ih x2 x3 t_f t_g t_met t_queue H locs ls hh.1 (Nat.lt_of_lt_of_le hh.2 (Nat.le_of_lt_succ hm)) hP hD hS hl⟩
              refine lv_iload_n hx hb dX11_moves_60 rfl (lv_at hl 2 rfl) ?_
              refine lv_iload_n hx hb dX11_moves_61 rfl (lv_at hl 1 rfl) ?_
              obtain ⟨ht, hf⟩ := h
              refine lv_icmp_ge (tgt := 186) hx hb dX11_moves_62 (by decide) (fun c9 => ?_) (fun c9 => ?_)
              · have h := ht c9
                refine lv_iload_n hx hb dX11_moves_186 rfl (lv_at hl 1 rfl) ?_
                exact hret x2 t_thrown t_f t_g t_met t_queue H locs ls _ hP hD hS h dX11_moves_187
              · have h := hf c9
                refine lv_aload_n hx hb dX11_moves_65 rfl (lv_at hl 0 rfl) ?_
                refine va_get (D := G) (ci := 10) (v := .int t_n) (C := RX11) (T := TX11) (N := 29) hx hb hts inX11 hown hK hP 0 rfl rfl 1 (by decide) hf9 (fun _ h9 => h9) rfl dX11_moves_66 ?_
                refine lv_aload_n hx hb dX11_moves_69 rfl (lv_at hl 0 rfl) ?_
                refine va_get (D := G) (ci := 10) (v := .ref (B_t 15)) (C := RX11) (T := TX11) (N := 29) hx hb hts inX11 hown hK hP 0 rfl rfl 15 (by decide) hf52 (fun _ h9 => h9) rfl dX11_moves_70 ?_
                refine lv_iload_n hx hb dX11_moves_73 rfl (lv_at hl 2 rfl) ?_
                obtain ⟨hin, h⟩ := h
                refine va_iald hx hb hK hP 4 0 rfl rfl hin dX11_moves_74 ?_
                refine lv_aload_n hx hb dX11_moves_75 rfl (lv_at hl 0 rfl) ?_
                refine va_get (D := G) (ci := 10) (v := .ref (B_t 5)) (C := RX11) (T := TX11) (N := 29) hx hb hts inX11 hown hK hP 0 rfl rfl 5 (by decide) hf23 (fun _ h9 => h9) rfl dX11_moves_76 ?_
                refine mc_vS ⟨hx, hb, hml, hown, hts⟩ hK hE hA hP hD hS (c_X11_permutation l G Y tF H.size (B_t 5) 8 t_f t_n (t_queue (Int32.toNatClampNeg x3)) h) (va_cwS 3 hts gX11_moves_X11_permutation rfl rfl rfl (by decide +kernel) ⟨Nat.le_trans (by decide) hRf, Nat.le_trans (by decide) hRl⟩) (fun u => (w_X11_moves Y h_t B_t t_thrown t_n t_modulus t_rows t_strands t_letters t_listedMany t_listN t_listWhat u t_g t_met t_queue t_table)) [1] [0, 2, 3, 4, 5] [0, 5, 1, 2, 3, 4] rfl rfl rfl rfl (by decide) (fun _ => rfl) rfl rfl hl.1 rfl (Nat.le_of_ble_eq_true rfl) dX11_moves_79 (fun u H locs h hP hD hS => ?_)
                obtain ⟨t_f_79, rfl⟩ : ∃ z, z = u := ⟨_, rfl⟩
                try dsimp only at h
                have hP : va_P G vwCl (w_X11_moves Y h_t B_t t_thrown t_n t_modulus t_rows t_strands t_letters t_listedMany t_listN t_listWhat t_f_79 t_g t_met t_queue t_table) H := hP
                have hD : va_D A (w_X11_moves Y h_t B_t t_thrown t_n t_modulus t_rows t_strands t_letters t_listedMany t_listN t_listWhat t_f_79 t_g t_met t_queue t_table) := hD
                refine lv_iconst (v := 0) hx hb dX11_moves_82 (by decide) ?_
                refine lv_istore (lv' := [(4, .int (0 : Int32)), (0, .ref h_t), (2, .int x2), (3, .int x3)]) hx hb dX11_moves_83 hl (by decide) rfl (fun ls hl => ?_)
                obtain ⟨I85, m85, hI85, hB85⟩ := h
                have L85 : ∀ (x3 : Int32) (t_f : Nat → Int32) (I85 : Int32 → Int32 → (Nat → Int32) → (Nat → Int32) → (Nat → Int32) → Prop) (m85 : Int32 → Int32 → (Nat → Int32) → (Nat → Int32) → (Nat → Int32) → Nat), (∀ (x2 : Int32) (x4 : Int32) (t_g : Nat → Int32) (t_met : Nat → Int32) (t_queue : Nat → Int32), I85 x2 x4 t_g t_met t_queue → pX11_moves_85 t_n t_table R60 K t_thrown x3 t_f x2 x4 t_g t_met t_queue (fun x2' x4' t_g' t_met' t_queue' => I85 x2' x4' t_g' t_met' t_queue' ∧ m85 x2' x4' t_g' t_met' t_queue' < m85 x2 x4 t_g t_met t_queue)) → ∀ (n : Nat) (x2 : Int32) (x4 : Int32) (t_g : Nat → Int32) (t_met : Nat → Int32) (t_queue : Nat → Int32) (H : Heap) (locs : List Loc) (ls : Array Slot), I85 x2 x4 t_g t_met t_queue → m85 x2 x4 t_g t_met t_queue < n → va_P G vwCl (w_X11_moves Y h_t B_t t_thrown t_n t_modulus t_rows t_strands t_letters t_listedMany t_listN t_listWhat t_f t_g t_met t_queue t_table) H → va_D A (w_X11_moves Y h_t B_t t_thrown t_n t_modulus t_rows t_strands t_letters t_listedMany t_listN t_listWhat t_f t_g t_met t_queue t_table) → va_S A s.heap H locs → lv_has ls 6 [(0, .ref h_t), (2, .int x2), (3, .int x3), (4, .int x4)] → W p l e R s m args below meth c H locs 0 0 Q (F0 m 85 ls []) := by
                  intro x3 t_f I85 m85 hB85 n
                  induction n with
                  | zero => intro x2 x4 t_g t_met t_queue H locs ls _ hm; exact absurd hm (Nat.not_lt_zero _)
                  | succ n ih =>
                    intro x2 x4 t_g t_met t_queue H locs ls hI hm hP hD hS hl
                    obtain ⟨R85, h, rec85⟩ : ∃ R85 : Int32 → Int32 → (Nat → Int32) → (Nat → Int32) → (Nat → Int32) → Prop, pX11_moves_85 t_n t_table R60 K t_thrown x3 t_f x2 x4 t_g t_met t_queue R85 ∧ ∀ (x2 : Int32) (x4 : Int32) (t_g : Nat → Int32) (t_met : Nat → Int32) (t_queue : Nat → Int32) (H : Heap) (locs : List Loc) (ls : Array Slot), R85 x2 x4 t_g t_met t_queue → va_P G vwCl (w_X11_moves Y h_t B_t t_thrown t_n t_modulus t_rows t_strands t_letters t_listedMany t_listN t_listWhat t_f t_g t_met t_queue t_table) H → va_D A (w_X11_moves Y h_t B_t t_thrown t_n t_modulus t_rows t_strands t_letters t_listedMany t_listN t_listWhat t_f t_g t_met t_queue t_table) → va_S A s.heap H locs → lv_has ls 6 [(0, .ref h_t), (2, .int x2), (3, .int x3), (4, .int x4)] → W p l e R s m args below meth c H locs 0 0 Q (F0 m 85 ls []) := ⟨_, hB85 x2 x4 t_g t_met t_queue hI, fun x2 x4 t_g t_met t_queue H locs ls hh hP hD hS hl => ih x2 x4 t_g t_met t_queue H locs ls hh.1 (Nat.lt_of_lt_of_le hh.2 (Nat.le_of_lt_succ hm)) hP hD hS hl⟩
                    refine lv_iload hx hb dX11_moves_85 (lv_at hl 3 rfl) ?_
                    refine lv_aload_n hx hb dX11_moves_87 rfl (lv_at hl 0 rfl) ?_
                    refine va_get (D := G) (ci := 10) (v := .int t_n) (C := RX11) (T := TX11) (N := 29) hx hb hts inX11 hown hK hP 0 rfl rfl 1 (by decide) hf9 (fun _ h9 => h9) rfl dX11_moves_88 ?_
                    obtain ⟨ht, hf⟩ := h
                    refine lv_icmp_ge (tgt := 180) hx hb dX11_moves_91 (by decide) (fun c9 => ?_) (fun c9 => ?_)
                    · have h := ht c9
                      refine lv_iinc (v := (x3 + 1)) (lv' := [(3, .int (x3 + 1)), (0, .ref h_t), (2, .int x2), (4, .int x4)]) hx hb dX11_moves_180 hl (k := 2) rfl rfl (by decide) rfl (fun ls hl => ?_)
                      refine lv_goto (tgt := 60) hx hb dX11_moves_183 (by decide) ?_
                      exact rec60 x2 (x3 + 1) t_f t_g t_met t_queue H locs ls h hP hD hS (lv_sub hl [1, 2, 0] rfl)
                    · have h := hf c9
                      refine lv_iconst (v := 0) hx hb dX11_moves_94 (by decide) ?_
                      refine lv_istore (lv' := [(5, .int (0 : Int32)), (0, .ref h_t), (2, .int x2), (3, .int x3), (4, .int x4)]) hx hb dX11_moves_95 hl (by decide) rfl (fun ls hl => ?_)
                      obtain ⟨I97, m97, hI97, hB97⟩ := h
                      have L97 : ∀ (x2 : Int32) (x4 : Int32) (t_met : Nat → Int32) (t_queue : Nat → Int32) (I97 : Int32 → (Nat → Int32) → Prop) (m97 : Int32 → (Nat → Int32) → Nat), (∀ (x5 : Int32) (t_g : Nat → Int32), I97 x5 t_g → pX11_moves_97 t_n t_table R60 R85 K t_thrown x3 t_f x2 x4 t_met t_queue x5 t_g (fun x5' t_g' => I97 x5' t_g' ∧ m97 x5' t_g' < m97 x5 t_g)) → ∀ (n : Nat) (x5 : Int32) (t_g : Nat → Int32) (H : Heap) (locs : List Loc) (ls : Array Slot), I97 x5 t_g → m97 x5 t_g < n → va_P G vwCl (w_X11_moves Y h_t B_t t_thrown t_n t_modulus t_rows t_strands t_letters t_listedMany t_listN t_listWhat t_f t_g t_met t_queue t_table) H → va_D A (w_X11_moves Y h_t B_t t_thrown t_n t_modulus t_rows t_strands t_letters t_listedMany t_listN t_listWhat t_f t_g t_met t_queue t_table) → va_S A s.heap H locs → lv_has ls 6 [(0, .ref h_t), (2, .int x2), (3, .int x3), (4, .int x4), (5, .int x5)] → W p l e R s m args below meth c H locs 0 0 Q (F0 m 97 ls []) := by
                        intro x2 x4 t_met t_queue I97 m97 hB97 n
                        induction n with
                        | zero => intro x5 t_g H locs ls _ hm; exact absurd hm (Nat.not_lt_zero _)
                        | succ n ih =>
                          intro x5 t_g H locs ls hI hm hP hD hS hl
                          obtain ⟨R97, h, rec97⟩ : ∃ R97 : Int32 → (Nat → Int32) → Prop, pX11_moves_97 t_n t_table R60 R85 K t_thrown x3 t_f x2 x4 t_met t_queue x5 t_g R97 ∧ ∀ (x5 : Int32) (t_g : Nat → Int32) (H : Heap) (locs : List Loc) (ls : Array Slot), R97 x5 t_g → va_P G vwCl (w_X11_moves Y h_t B_t t_thrown t_n t_modulus t_rows t_strands t_letters t_listedMany t_listN t_listWhat t_f t_g t_met t_queue t_table) H → va_D A (w_X11_moves Y h_t B_t t_thrown t_n t_modulus t_rows t_strands t_letters t_listedMany t_listN t_listWhat t_f t_g t_met t_queue t_table) → va_S A s.heap H locs → lv_has ls 6 [(0, .ref h_t), (2, .int x2), (3, .int x3), (4, .int x4), (5, .int x5)] → W p l e R s m args below meth c H locs 0 0 Q (F0 m 97 ls []) := ⟨_, hB97 x5 t_g hI, fun x5 t_g H locs ls hh hP hD hS hl => ih x5 t_g H locs ls hh.1 (Nat.lt_of_lt_of_le hh.2 (Nat.le_of_lt_succ hm)) hP hD hS hl⟩
                          refine lv_iload hx hb dX11_moves_97 (lv_at hl 4 rfl) ?_
                          refine lv_aload_n hx hb dX11_moves_99 rfl (lv_at hl 0 rfl) ?_
                          refine va_get (D := G) (ci := 10) (v := .int t_n) (C := RX11) (T := TX11) (N := 29) hx hb hts inX11 hown hK hP 0 rfl rfl 1 (by decide) hf9 (fun _ h9 => h9) rfl dX11_moves_100 ?_
                          obtain ⟨ht, hf⟩ := h
                          refine lv_icmp_ge (tgt := 132) hx hb dX11_moves_103 (by decide) (fun c9 => ?_) (fun c9 => ?_)
                          · have h := ht c9
                            refine lv_aload_n hx hb dX11_moves_132 rfl (lv_at hl 0 rfl) ?_
                            refine va_get (D := G) (ci := 10) (v := .int t_n) (C := RX11) (T := TX11) (N := 29) hx hb hts inX11 hown hK hP 0 rfl rfl 1 (by decide) hf9 (fun _ h9 => h9) rfl dX11_moves_133 ?_
                            refine lv_aload_n hx hb dX11_moves_136 rfl (lv_at hl 0 rfl) ?_
                            refine va_get (D := G) (ci := 10) (v := .ref (B_t 6)) (C := RX11) (T := TX11) (N := 29) hx hb hts inX11 hown hK hP 0 rfl rfl 6 (by decide) hf26 (fun _ h9 => h9) rfl dX11_moves_137 ?_
                            refine mc_iS ⟨hx, hb, hml, hown, hts⟩ hK hE hA hP hD hS (c_X11_numberOf l G Y tF H.size (B_t 6) 8 t_g t_n h) (va_cwS 2 hts gX11_moves_X11_numberOf rfl rfl rfl (by decide +kernel) ⟨Nat.le_trans (by decide) hRf, Nat.le_trans (by decide) hRl⟩) (fun u => (w_X11_moves Y h_t B_t t_thrown t_n t_modulus t_rows t_strands t_letters t_listedMany t_listN t_listWhat t_f t_g t_met t_queue t_table)) [2] [0, 1, 3, 4, 5] [0, 1, 5, 2, 3, 4] rfl rfl rfl rfl (by decide) (fun _ => rfl) rfl rfl hl.1 rfl (Nat.le_of_ble_eq_true rfl) dX11_moves_140 (fun r140 u H locs h hP hD hS => ?_)
                            try dsimp only at h
                            have hP : va_P G vwCl (w_X11_moves Y h_t B_t t_thrown t_n t_modulus t_rows t_strands t_letters t_listedMany t_listN t_listWhat t_f t_g t_met t_queue t_table) H := hP
                            have hD : va_D A (w_X11_moves Y h_t B_t t_thrown t_n t_modulus t_rows t_strands t_letters t_listedMany t_listN t_listWhat t_f t_g t_met t_queue t_table) := hD
                            refine lv_istore (lv' := [(5, .int r140), (0, .ref h_t), (2, .int x2), (3, .int x3), (4, .int x4)]) hx hb dX11_moves_143 hl (by decide) rfl (fun ls hl => ?_)
                            refine lv_aload_n hx hb dX11_moves_145 rfl (lv_at hl 1 rfl) ?_
                            refine va_get (D := G) (ci := 10) (v := .ref (B_t 14)) (C := RX11) (T := TX11) (N := 29) hx hb hts inX11 hown hK hP 0 rfl rfl 14 (by decide) hf48 (fun _ h9 => h9) rfl dX11_moves_146 ?_
                            refine lv_iload hx hb dX11_moves_149 (lv_at hl 0 rfl) ?_
                            obtain ⟨hin, h⟩ := h
                            refine va_zald hx hb hK hP 3 1 rfl rfl hin dX11_moves_151 ?_
                            obtain ⟨ht, hf⟩ := h
                            refine lv_if_ne (tgt := 174) hx hb dX11_moves_152 (by decide) (fun c9 => ?_) (fun c9 => ?_)
                            · have h := ht c9
                              refine lv_iinc (v := (x4 + 1)) (lv' := [(4, .int (x4 + 1)), (5, .int r140), (0, .ref h_t), (2, .int x2), (3, .int x3)]) hx hb dX11_moves_174 hl (k := 4) rfl rfl (by decide) rfl (fun ls hl => ?_)
                              refine lv_goto (tgt := 85) hx hb dX11_moves_177 (by decide) ?_
                              exact rec85 x2 (x4 + 1) t_g t_met t_queue H locs ls h hP hD hS (lv_sub hl [2, 3, 4, 0] rfl)
                            · have h := hf c9
                              refine lv_aload_n hx hb dX11_moves_155 rfl (lv_at hl 1 rfl) ?_
                              refine va_get (D := G) (ci := 10) (v := .ref (B_t 14)) (C := RX11) (T := TX11) (N := 29) hx hb hts inX11 hown hK hP 0 rfl rfl 14 (by decide) hf48 (fun _ h9 => h9) rfl dX11_moves_156 ?_
                              refine lv_iload hx hb dX11_moves_159 (lv_at hl 0 rfl) ?_
                              refine lv_iconst (v := 1) hx hb dX11_moves_161 (by decide) ?_
                              obtain ⟨hin, h⟩ := h
                              refine va_zast hx hb hK hP hD hS 3 1 rfl rfl hin dX11_moves_162 (fun H locs hP hD hS => ?_)
                              have hP : va_P G vwCl (w_X11_moves Y h_t B_t t_thrown t_n t_modulus t_rows t_strands t_letters t_listedMany t_listN t_listWhat t_f t_g (upd t_met (Int32.toNatClampNeg r140) (vp_nar .boolean (1 : Int32))) t_queue t_table) H := hP
                              have hD : va_D A (w_X11_moves Y h_t B_t t_thrown t_n t_modulus t_rows t_strands t_letters t_listedMany t_listN t_listWhat t_f t_g (upd t_met (Int32.toNatClampNeg r140) (vp_nar .boolean (1 : Int32))) t_queue t_table) := hD
                              refine lv_aload_n hx hb dX11_moves_163 rfl (lv_at hl 1 rfl) ?_
                              refine va_get (D := G) (ci := 10) (v := .ref (B_t 15)) (C := RX11) (T := TX11) (N := 29) hx hb hts inX11 hown hK hP 0 rfl rfl 15 (by decide) hf52 (fun _ h9 => h9) rfl dX11_moves_164 ?_
                              refine lv_iload_n hx hb dX11_moves_167 rfl (lv_at hl 2 rfl) ?_
                              refine lv_iload hx hb dX11_moves_168 (lv_at hl 0 rfl) ?_
                              obtain ⟨hin, h⟩ := h
                              refine va_iast hx hb hK hP hD hS 4 0 rfl rfl hin dX11_moves_170 (fun H locs hP hD hS => ?_)
                              have hP : va_P G vwCl (w_X11_moves Y h_t B_t t_thrown t_n t_modulus t_rows t_strands t_letters t_listedMany t_listN t_listWhat t_f t_g (upd t_met (Int32.toNatClampNeg r140) (vp_nar .boolean (1 : Int32))) (upd t_queue (Int32.toNatClampNeg x2) r140) t_table) H := hP
                              have hD : va_D A (w_X11_moves Y h_t B_t t_thrown t_n t_modulus t_rows t_strands t_letters t_listedMany t_listN t_listWhat t_f t_g (upd t_met (Int32.toNatClampNeg r140) (vp_nar .boolean (1 : Int32))) (upd t_queue (Int32.toNatClampNeg x2) r140) t_table) := hD
                              refine lv_iinc (v := (x2 + 1)) (lv' := [(2, .int (x2 + 1)), (5, .int r140), (0, .ref h_t), (3, .int x3), (4, .int x4)]) hx hb dX11_moves_171 hl (k := 2) rfl rfl (by decide) rfl (fun ls hl => ?_)
                              refine lv_iinc (v := (x4 + 1)) (lv' := [(4, .int (x4 + 1)), (2, .int (x2 + 1)), (5, .int r140), (0, .ref h_t), (3, .int x3)]) hx hb dX11_moves_174 hl (k := 4) rfl rfl (by decide) rfl (fun ls hl => ?_)
                              refine lv_goto (tgt := 85) hx hb dX11_moves_177 (by decide) ?_
                              exact rec85 (x2 + 1) (x4 + 1) t_g (upd t_met (Int32.toNatClampNeg r140) (vp_nar .boolean (1 : Int32))) (upd t_queue (Int32.toNatClampNeg x2) r140) H locs ls h hP hD hS (lv_sub hl [3, 1, 4, 0] rfl)
                          · have h := hf c9
                            refine lv_aload_n hx hb dX11_moves_106 rfl (lv_at hl 0 rfl) ?_
                            refine va_get (D := G) (ci := 10) (v := .ref (B_t 6)) (C := RX11) (T := TX11) (N := 29) hx hb hts inX11 hown hK hP 0 rfl rfl 6 (by decide) hf26 (fun _ h9 => h9) rfl dX11_moves_107 ?_
                            refine lv_iload hx hb dX11_moves_110 (lv_at hl 4 rfl) ?_
                            refine lv_aload_n hx hb dX11_moves_112 rfl (lv_at hl 0 rfl) ?_
                            refine lv_iload hx hb dX11_moves_113 (lv_at hl 3 rfl) ?_
                            refine lv_aload_n hx hb dX11_moves_115 rfl (lv_at hl 0 rfl) ?_
                            refine va_get (D := G) (ci := 10) (v := .ref (B_t 5)) (C := RX11) (T := TX11) (N := 29) hx hb hts inX11 hown hK hP 0 rfl rfl 5 (by decide) hf23 (fun _ h9 => h9) rfl dX11_moves_116 ?_
                            refine lv_iload hx hb dX11_moves_119 (lv_at hl 4 rfl) ?_
                            obtain ⟨hin, h⟩ := h
                            refine va_iald hx hb hK hP 1 0 rfl rfl hin dX11_moves_121 ?_
                            refine mc_iV ⟨hx, hb, hml, hown, hts⟩ hK hE hA hP hD hS (c_X11_by l G Y tF H.size h_t B_t t_thrown t_n t_modulus t_rows t_strands t_letters t_listedMany t_listN t_listWhat t_table x4 (t_f (Int32.toNatClampNeg x5)) h) (cwV 2 hts gX11_moves_X11_by rfl rfl rfl (by decide +kernel) ⟨Nat.le_trans (by decide) hRf, Nat.le_trans (by decide) hRl⟩) (fun u => (w_X11_moves Y h_t B_t t_thrown t_n t_modulus t_rows t_strands t_letters t_listedMany t_listN t_listWhat t_f t_g t_met t_queue t_table)) [0, 5] [1, 2, 3, 4] [4, 0, 1, 2, 3, 5] rfl rfl rfl rfl (by decide) (fun _ => rfl) rfl 0 10 rfl rfl rfl rfl hl.1 rfl (Nat.le_of_ble_eq_true rfl) dX11_moves_122 (fun r122 u H locs h hP hD hS => ?_)
                            try dsimp only at h
                            have hP : va_P G vwCl (w_X11_moves Y h_t B_t t_thrown t_n t_modulus t_rows t_strands t_letters t_listedMany t_listN t_listWhat t_f t_g t_met t_queue t_table) H := hP
                            have hD : va_D A (w_X11_moves Y h_t B_t t_thrown t_n t_modulus t_rows t_strands t_letters t_listedMany t_listN t_listWhat t_f t_g t_met t_queue t_table) := hD
                            obtain ⟨hin, h⟩ := h
                            refine va_iast hx hb hK hP hD hS 2 0 rfl rfl hin dX11_moves_125 (fun H locs hP hD hS => ?_)
                            have hP : va_P G vwCl (w_X11_moves Y h_t B_t t_thrown t_n t_modulus t_rows t_strands t_letters t_listedMany t_listN t_listWhat t_f (upd t_g (Int32.toNatClampNeg x5) r122) t_met t_queue t_table) H := hP
                            have hD : va_D A (w_X11_moves Y h_t B_t t_thrown t_n t_modulus t_rows t_strands t_letters t_listedMany t_listN t_listWhat t_f (upd t_g (Int32.toNatClampNeg x5) r122) t_met t_queue t_table) := hD
                            refine lv_iinc (v := (x5 + 1)) (lv' := [(5, .int (x5 + 1)), (0, .ref h_t), (2, .int x2), (3, .int x3), (4, .int x4)]) hx hb dX11_moves_126 hl (k := 4) rfl rfl (by decide) rfl (fun ls hl => ?_)
                            refine lv_goto (tgt := 97) hx hb dX11_moves_129 (by decide) ?_
                            exact rec97 (x5 + 1) (upd t_g (Int32.toNatClampNeg x5) r122) H locs ls h hP hD hS (lv_sub hl [1, 2, 3, 4, 0] rfl)
                      exact L97 x2 x4 t_met t_queue I97 m97 hB97 _ (0 : Int32) t_g H locs ls hI97 (Nat.lt_succ_self _) hP hD hS (lv_sub hl [1, 2, 3, 4, 0] rfl)
                exact L85 x3 t_f_79 I85 m85 hB85 _ x2 (0 : Int32) t_g t_met t_queue H locs ls hI85 (Nat.lt_succ_self _) hP hD hS (lv_sub hl [1, 2, 3, 0] rfl)
          exact L60 t_thrown I60 m60 hB60 _ (1 : Int32) (0 : Int32) t_f t_g (upd t_met (Int32.toNatClampNeg (0 : Int32)) (vp_nar .boolean (1 : Int32))) (upd t_queue (Int32.toNatClampNeg (0 : Int32)) (0 : Int32)) H locs ls hI60 (Nat.lt_succ_self _) hP hD hS (lv_sub hl [2, 1, 0] rfl)
        · have h := hf c9
          refine lv_aload_n hx hb dX11_moves_29 rfl (lv_at hl 0 rfl) ?_
          refine va_get (D := G) (ci := 10) (v := .ref (B_t 14)) (C := RX11) (T := TX11) (N := 29) hx hb hts inX11 hown hK hP 0 rfl rfl 14 (by decide) hf48 (fun _ h9 => h9) rfl dX11_moves_30 ?_
          refine lv_iload_n hx hb dX11_moves_33 rfl (lv_at hl 2 rfl) ?_
          refine lv_iconst (v := 0) hx hb dX11_moves_34 (by decide) ?_
          obtain ⟨hin, h⟩ := h
          refine va_zast hx hb hK hP hD hS 3 1 rfl rfl hin dX11_moves_35 (fun H locs hP hD hS => ?_)
          have hP : va_P G vwCl (w_X11_moves Y h_t B_t t_thrown t_n t_modulus t_rows t_strands t_letters t_listedMany t_listN t_listWhat t_f t_g (upd t_met (Int32.toNatClampNeg x2) (vp_nar .boolean (0 : Int32))) t_queue t_table) H := hP
          have hD : va_D A (w_X11_moves Y h_t B_t t_thrown t_n t_modulus t_rows t_strands t_letters t_listedMany t_listN t_listWhat t_f t_g (upd t_met (Int32.toNatClampNeg x2) (vp_nar .boolean (0 : Int32))) t_queue t_table) := hD
          refine lv_iinc (v := (x2 + 1)) (lv' := [(2, .int (x2 + 1)), (0, .ref h_t), (1, .int x1)]) hx hb dX11_moves_36 hl (k := 2) rfl rfl (by decide) rfl (fun ls hl => ?_)
          refine lv_goto (tgt := 24) hx hb dX11_moves_39 (by decide) ?_
          exact rec24 (x2 + 1) (upd t_met (Int32.toNatClampNeg x2) (vp_nar .boolean (0 : Int32))) H locs ls h hP hD hS (lv_sub hl [1, 2, 0] rfl)
    exact L24 r18 (0 : Int32) t_f t_g t_queue I24 m24 hB24 _ (0 : Int32) t_met H locs ls hI24 (Nat.lt_succ_self _) hP hD hS (lv_sub hl [2, 1, 0] rfl)
  · have h := hf c9
    refine lv_iconst (v := -1) hx hb dX11_moves_12 (by decide) ?_
    exact hret (-1 : Int32) (0 : Int32) t_f t_g t_met t_queue H locs ls _ hP hD hS h dX11_moves_13

set_option maxHeartbeats 4000000 in
set_option maxRecDepth 100000 in
theorem c_X11_moves (l : Launch) (G : va_G) (Y : Nat → ClassId) (tF sz : Nat) (h_t : Nat) (B_t : Nat → Nat) (t_thrown : Int32) (t_n : Int32) (t_modulus : Int32) (t_rows : Int32) (t_strands : Int32) (t_letters : Int32) (t_listedMany : Int32) (t_listN : Int32) (t_listWhat : Int32) (t_f : Nat → Int32) (t_g : Nat → Int32) (t_met : Nat → Int32) (t_queue : Nat → Int32) (t_table : Nat → Int32) {K : Int32 → Int32 → (Nat → Int32) → (Nat → Int32) → (Nat → Int32) → (Nat → Int32) → Prop} (h : pX11_moves t_thrown t_n t_f t_g t_met t_queue t_table K) : Met l yX11_moves wsX11_moves ({ frames := 12, cells := 0, slots := 0, locals := 248 }) (PcM G Y tF sz (w_X11_moves Y h_t B_t t_thrown t_n t_modulus t_rows t_strands t_letters t_listedMany t_listN t_listWhat t_f t_g t_met t_queue t_table) [.ref h_t]) (va_Qi (fun (r : Int32) (u : Int32 × (Nat → Int32) × (Nat → Int32) × (Nat → Int32) × (Nat → Int32)) => K r u.1 u.2.1 u.2.2.1 u.2.2.2.1 u.2.2.2.2) (fun u t => BM G Y (va_A (w_X11_moves Y h_t B_t t_thrown t_n t_modulus t_rows t_strands t_letters t_listedMany t_listN t_listWhat t_f t_g t_met t_queue t_table) sz) (w_X11_moves Y h_t B_t u.1 t_n t_modulus t_rows t_strands t_letters t_listedMany t_listN t_listWhat u.2.1 u.2.2.1 u.2.2.2.1 u.2.2.2.2 t_table) t) (va_A (w_X11_moves Y h_t B_t t_thrown t_n t_modulus t_rows t_strands t_letters t_listedMany t_listN t_listWhat t_f t_g t_met t_queue t_table) sz)) 0 0 (va_A (w_X11_moves Y h_t B_t t_thrown t_n t_modulus t_rows t_strands t_letters t_listedMany t_listN t_listWhat t_f t_g t_met t_queue t_table) sz) := by
  refine Met.ofW (cc := cX11_moves) (maxL := 6) (ret := (some .int)) (by decide +kernel) rfl ?_
  intro p e s m args below meth c s₁ B hml hv
  obtain ⟨rfl, hsz, hP, hK, hD0, hE⟩ := hv
  have hts := atoms_spec (ws := wsX11_moves) B.pre
  have hown : s.vm.findClass RX11 = some m.cls := findClass_of_methodNamed B.named
  have hlocks := B.notSynchronized
  subst hsz
  have hD := hD0.self (sz := s.heap.size)
  exact wk_X11_moves h_t B_t t_thrown t_n t_modulus t_rows t_strands t_letters t_listedMany t_listN t_listWhat t_f t_g t_met t_queue t_table B.exec B.bytes hml hown hts hK hE (fun q h => Or.inr h) (Nat.le_refl _) (Nat.le_refl _) (fun r t_thrown t_f t_g t_met t_queue H locs ls pc hP hD hS hk hd => W.iret (v := r) B.exec B.bytes B.returns (fun t ht hW => ⟨⟨r, (t_thrown, t_f, t_g, t_met, t_queue), rfl, hk, by rw [ht]; exact hP, va_K.moved hW.alike hK, hD⟩, hS.F ht⟩) hS.2.2 hd) hP hD h

abbrev w_X11_makes (Y : Nat → ClassId) (h_t : Nat) (h_p1 : Nat) (B_t : Nat → Nat) (N_p1 : Nat) (t_thrown : Int32) (t_n : Int32) (t_modulus : Int32) (t_rows : Int32) (t_strands : Int32) (t_letters : Int32) (t_listedMany : Int32) (t_listN : Int32) (t_listWhat : Int32) (t_f : Nat → Int32) (t_table : Nat → Int32) (p1 : Nat → Int32) : va_W := [(h_t, .inr (10, [.int t_thrown, .int t_n, .ref (B_t 2), .int t_modulus, .ref (B_t 4), .ref (B_t 5), .ref (B_t 6), .ref (B_t 7), .ref (B_t 8), .ref (B_t 9), .ref (B_t 10), .int t_rows, .ref (B_t 12), .ref (B_t 13), .ref (B_t 14), .ref (B_t 15), .ref (B_t 16), .ref (B_t 17), .ref (B_t 18), .ref (B_t 19), .int t_strands, .int t_letters, .ref (B_t 22), .ref (B_t 23), .ref (B_t 24), .ref (B_t 25), .int t_listedMany, .int t_listN, .int t_listWhat])), ((B_t 5), .inl (Y 0, 8, .inl t_f)), ((B_t 2), .inl (Y 0, 64, .inl t_table)), (h_p1, .inl (Y 0, N_p1, .inl p1))]

set_option maxHeartbeats 4000000 in
set_option maxRecDepth 100000 in
theorem wk_X11_makes {p : Program} {l : Launch} {e : Env} {R : Room} {s : State} {m : MethodId} {args : Array Value} {below : List Frame} {meth : Method} {c : Code} {Q : State → Prop} {G : va_G} {Y : Nat → ClassId} {tF : Nat} {A : Nat → Prop} (h_t : Nat) (h_p1 : Nat) (B_t : Nat → Nat) (N_p1 : Nat) (t_thrown : Int32) (t_n : Int32) (t_modulus : Int32) (t_rows : Int32) (t_strands : Int32) (t_letters : Int32) (t_listedMany : Int32) (t_listN : Int32) (t_listWhat : Int32) (t_f : Nat → Int32) (t_table : Nat → Int32) (p1 : Nat → Int32) (x2 : Int32) {K : Int32 → Prop} (hx : p.tables.exec = Jvm.exec) (hb : c.code = cX11_makes) (hml : c.maxLocals = 5) (hown : s.vm.findClass RX11 = some m.cls) (hts : ∀ w ∈ wsX11_makes, w.before args s = true) (hK : va_K G vwCl (tyL Y) s) (hE : Ev A tF s) (hA : ∀ q, s.heap.size ≤ q → A q) (hRf : 1 ≤ R.frames) (hRl : 22 ≤ R.locals) (hret : ∀ (r : Int32)  (H : Heap) (locs : List Loc) (ls : Array Slot) (pc : Nat), va_P G vwCl (w_X11_makes Y h_t h_p1 B_t N_p1 t_thrown t_n t_modulus t_rows t_strands t_letters t_listedMany t_listN t_listWhat t_f t_table p1) H → va_D A (w_X11_makes Y h_t h_p1 B_t N_p1 t_thrown t_n t_modulus t_rows t_strands t_letters t_listedMany t_listN t_listWhat t_f t_table p1) → va_S A s.heap H locs → zb r → K r → decode cX11_makes pc = .ok (.ireturn, 1) → W p l e R s m args below meth c H locs 0 0 Q (F0 m pc ls [.int r])) (hP : va_P G vwCl (w_X11_makes Y h_t h_p1 B_t N_p1 t_thrown t_n t_modulus t_rows t_strands t_letters t_listedMany t_listN t_listWhat t_f t_table p1) s.heap) (hD : va_D A (w_X11_makes Y h_t h_p1 B_t N_p1 t_thrown t_n t_modulus t_rows t_strands t_letters t_listedMany t_listN t_listWhat t_f t_table p1)) (h : pX11_makes N_p1 t_n t_f t_table p1 x2 K) : W p l e R s m args below meth c s.heap [] 0 0 Q (entryFrame m ([.ref h_t, .ref h_p1, .int x2] : List Value).toArray 5) := by
  have inX11 : ∀ w ∈ u_ws RX11 TX11 29, w ∈ wsX11_makes := by decide +kernel
  have hf23 := hts (.fieldLink RX11 23 "RackBenchModel" "f" "[I") (by decide +kernel)
  have hf9 := hts (.fieldLink RX11 9 "RackBenchModel" "n" "I") (by decide +kernel)
  have hl := lv_entry ([.ref h_t, .ref h_p1, .int x2]) (n := 5) (Nat.le_of_ble_eq_true rfl)
  rw [lg_entry_eq]
  generalize (lg_sl ([.ref h_t, .ref h_p1, .int x2]) ++ List.replicate (5 - (lg_sl ([.ref h_t, .ref h_p1, .int x2])).length) Slot.unset).toArray = ls at hl ⊢
  have hl : lv_has ls 5 [(0, .ref h_t), (1, .ref h_p1), (2, .int x2)] := hl
  generalize hH0 : s.heap = H at hP ⊢
  have hS : va_S A s.heap H [] := by rw [← hH0]; exact va_S.rf
  clear hH0
  generalize ([] : List Loc) = locs at hS ⊢
  refine lv_iconst (v := 0) hx hb dX11_makes_0 (by decide) ?_
  refine lv_istore_n (lv' := [(3, .int (0 : Int32)), (0, .ref h_t), (1, .ref h_p1), (2, .int x2)]) hx hb dX11_makes_1 rfl hl (by decide) rfl (fun ls hl => ?_)
  obtain ⟨I2, m2, hI2, hB2⟩ := h
  have L2 : ∀ (x2 : Int32) (I2 : Int32 → Prop) (m2 : Int32 → Nat), (∀ (x3 : Int32), I2 x3 → pX11_makes_2 N_p1 t_n t_f t_table p1 K x2 x3 (fun x3' => I2 x3' ∧ m2 x3' < m2 x3)) → ∀ (n : Nat) (x3 : Int32) (H : Heap) (locs : List Loc) (ls : Array Slot), I2 x3 → m2 x3 < n → va_P G vwCl (w_X11_makes Y h_t h_p1 B_t N_p1 t_thrown t_n t_modulus t_rows t_strands t_letters t_listedMany t_listN t_listWhat t_f t_table p1) H → va_D A (w_X11_makes Y h_t h_p1 B_t N_p1 t_thrown t_n t_modulus t_rows t_strands t_letters t_listedMany t_listN t_listWhat t_f t_table p1) → va_S A s.heap H locs → lv_has ls 5 [(0, .ref h_t), (1, .ref h_p1), (2, .int x2), (3, .int x3)] → W p l e R s m args below meth c H locs 0 0 Q (F0 m 2 ls []) := by
    intro x2 I2 m2 hB2 n
    induction n with
    | zero => intro x3 H locs ls _ hm; exact absurd hm (Nat.not_lt_zero _)
    | succ n ih =>
      intro x3 H locs ls hI hm hP hD hS hl
      obtain ⟨R2, h, rec2⟩ : ∃ R2 : Int32 → Prop, pX11_makes_2 N_p1 t_n t_f t_table p1 K x2 x3 R2 ∧ ∀ (x3 : Int32) (H : Heap) (locs : List Loc) (ls : Array Slot), R2 x3 → va_P G vwCl (w_X11_makes Y h_t h_p1 B_t N_p1 t_thrown t_n t_modulus t_rows t_strands t_letters t_listedMany t_listN t_listWhat t_f t_table p1) H → va_D A (w_X11_makes Y h_t h_p1 B_t N_p1 t_thrown t_n t_modulus t_rows t_strands t_letters t_listedMany t_listN t_listWhat t_f t_table p1) → va_S A s.heap H locs → lv_has ls 5 [(0, .ref h_t), (1, .ref h_p1), (2, .int x2), (3, .int x3)] → W p l e R s m args below meth c H locs 0 0 Q (F0 m 2 ls []) := ⟨_, hB2 x3 hI, fun x3 H locs ls hh hP hD hS hl => ih x3 H locs ls hh.1 (Nat.lt_of_lt_of_le hh.2 (Nat.le_of_lt_succ hm)) hP hD hS hl⟩
      refine lv_iload_n hx hb dX11_makes_2 rfl (lv_at hl 3 rfl) ?_
      refine lv_aload_n hx hb dX11_makes_3 rfl (lv_at hl 0 rfl) ?_
      refine va_get (D := G) (ci := 10) (v := .int t_n) (C := RX11) (T := TX11) (N := 29) hx hb hts inX11 hown hK hP 0 rfl rfl 1 (by decide) hf9 (fun _ h9 => h9) rfl dX11_makes_4 ?_
      obtain ⟨ht, hf⟩ := h
      refine lv_icmp_ge (tgt := 72) hx hb dX11_makes_7 (by decide) (fun c9 => ?_) (fun c9 => ?_)
      · have h := ht c9
        refine lv_iconst (v := 1) hx hb dX11_makes_72 (by decide) ?_
        obtain ⟨hz, h⟩ := h
        exact hret (1 : Int32)  H locs ls _ hP hD hS hz h dX11_makes_73
      · have h := hf c9
        refine lv_iconst (v := 0) hx hb dX11_makes_10 (by decide) ?_
        refine lv_istore (lv' := [(4, .int (0 : Int32)), (0, .ref h_t), (1, .ref h_p1), (2, .int x2), (3, .int x3)]) hx hb dX11_makes_11 hl (by decide) rfl (fun ls hl => ?_)
        obtain ⟨I13, m13, hI13, hB13⟩ := h
        have L13 : ∀ (x3 : Int32) (I13 : Int32 → Prop) (m13 : Int32 → Nat), (∀ (x4 : Int32), I13 x4 → pX11_makes_13 N_p1 t_n t_f t_table p1 R2 K x2 x3 x4 (fun x4' => I13 x4' ∧ m13 x4' < m13 x4)) → ∀ (n : Nat) (x4 : Int32) (H : Heap) (locs : List Loc) (ls : Array Slot), I13 x4 → m13 x4 < n → va_P G vwCl (w_X11_makes Y h_t h_p1 B_t N_p1 t_thrown t_n t_modulus t_rows t_strands t_letters t_listedMany t_listN t_listWhat t_f t_table p1) H → va_D A (w_X11_makes Y h_t h_p1 B_t N_p1 t_thrown t_n t_modulus t_rows t_strands t_letters t_listedMany t_listN t_listWhat t_f t_table p1) → va_S A s.heap H locs → lv_has ls 5 [(0, .ref h_t), (1, .ref h_p1), (2, .int x2), (3, .int x3), (4, .int x4)] → W p l e R s m args below meth c H locs 0 0 Q (F0 m 13 ls []) := by
          intro x3 I13 m13 hB13 n
          induction n with
          | zero => intro x4 H locs ls _ hm; exact absurd hm (Nat.not_lt_zero _)
          | succ n ih =>
            intro x4 H locs ls hI hm hP hD hS hl
            obtain ⟨R13, h, rec13⟩ : ∃ R13 : Int32 → Prop, pX11_makes_13 N_p1 t_n t_f t_table p1 R2 K x2 x3 x4 R13 ∧ ∀ (x4 : Int32) (H : Heap) (locs : List Loc) (ls : Array Slot), R13 x4 → va_P G vwCl (w_X11_makes Y h_t h_p1 B_t N_p1 t_thrown t_n t_modulus t_rows t_strands t_letters t_listedMany t_listN t_listWhat t_f t_table p1) H → va_D A (w_X11_makes Y h_t h_p1 B_t N_p1 t_thrown t_n t_modulus t_rows t_strands t_letters t_listedMany t_listN t_listWhat t_f t_table p1) → va_S A s.heap H locs → lv_has ls 5 [(0, .ref h_t), (1, .ref h_p1), (2, .int x2), (3, .int x3), (4, .int x4)] → W p l e R s m args below meth c H locs 0 0 Q (F0 m 13 ls []) := ⟨_, hB13 x4 hI, fun x4 H locs ls hh hP hD hS hl => ih x4 H locs ls hh.1 (Nat.lt_of_lt_of_le hh.2 (Nat.le_of_lt_succ hm)) hP hD hS hl⟩
            refine lv_iload hx hb dX11_makes_13 (lv_at hl 4 rfl) ?_
            refine lv_aload_n hx hb dX11_makes_15 rfl (lv_at hl 0 rfl) ?_
            refine va_get (D := G) (ci := 10) (v := .int t_n) (C := RX11) (T := TX11) (N := 29) hx hb hts inX11 hown hK hP 0 rfl rfl 1 (by decide) hf9 (fun _ h9 => h9) rfl dX11_makes_16 ?_
            obtain ⟨ht, hf⟩ := h
            refine lv_icmp_ge (tgt := 66) hx hb dX11_makes_19 (by decide) (fun c9 => ?_) (fun c9 => ?_)
            · have h := ht c9
              refine lv_iinc (v := (x3 + 1)) (lv' := [(3, .int (x3 + 1)), (0, .ref h_t), (1, .ref h_p1), (2, .int x2), (4, .int x4)]) hx hb dX11_makes_66 hl (k := 3) rfl rfl (by decide) rfl (fun ls hl => ?_)
              refine lv_goto (tgt := 2) hx hb dX11_makes_69 (by decide) ?_
              exact rec2 (x3 + 1) H locs ls h hP hD hS (lv_sub hl [1, 2, 3, 0] rfl)
            · have h := hf c9
              refine lv_aload_n hx hb dX11_makes_22 rfl (lv_at hl 1 rfl) ?_
              refine lv_iload_n hx hb dX11_makes_23 rfl (lv_at hl 2 rfl) ?_
              refine lv_bipush (v := 8) hx hb dX11_makes_24 (by decide) ?_
              refine lv_aload_n hx hb dX11_makes_26 rfl (lv_at hl 0 rfl) ?_
              refine va_get (D := G) (ci := 10) (v := .ref (B_t 5)) (C := RX11) (T := TX11) (N := 29) hx hb hts inX11 hown hK hP 0 rfl rfl 5 (by decide) hf23 (fun _ h9 => h9) rfl dX11_makes_27 ?_
              refine lv_iload_n hx hb dX11_makes_30 rfl (lv_at hl 3 rfl) ?_
              obtain ⟨hin, h⟩ := h
              refine va_iald hx hb hK hP 1 0 rfl rfl hin dX11_makes_31 ?_
              refine lv_imul hx hb dX11_makes_32 ?_
              refine lv_iadd hx hb dX11_makes_33 ?_
              refine lv_aload_n hx hb dX11_makes_34 rfl (lv_at hl 0 rfl) ?_
              refine va_get (D := G) (ci := 10) (v := .ref (B_t 5)) (C := RX11) (T := TX11) (N := 29) hx hb hts inX11 hown hK hP 0 rfl rfl 5 (by decide) hf23 (fun _ h9 => h9) rfl dX11_makes_35 ?_
              refine lv_iload hx hb dX11_makes_38 (lv_at hl 4 rfl) ?_
              obtain ⟨hin, h⟩ := h
              refine va_iald hx hb hK hP 1 0 rfl rfl hin dX11_makes_40 ?_
              refine lv_iadd hx hb dX11_makes_41 ?_
              obtain ⟨hin, h⟩ := h
              refine va_iald hx hb hK hP 3 0 rfl rfl hin dX11_makes_42 ?_
              refine lv_aload_n hx hb dX11_makes_43 rfl (lv_at hl 0 rfl) ?_
              refine va_get (D := G) (ci := 10) (v := .ref (B_t 5)) (C := RX11) (T := TX11) (N := 29) hx hb hts inX11 hown hK hP 0 rfl rfl 5 (by decide) hf23 (fun _ h9 => h9) rfl dX11_makes_44 ?_
              refine lv_aload_n hx hb dX11_makes_47 rfl (lv_at hl 0 rfl) ?_
              refine lv_iload_n hx hb dX11_makes_48 rfl (lv_at hl 3 rfl) ?_
              refine lv_iload hx hb dX11_makes_49 (lv_at hl 4 rfl) ?_
              refine mc_iV ⟨hx, hb, hml, hown, hts⟩ hK hE hA hP hD hS (c_X11_by l G Y tF H.size h_t B_t t_thrown t_n t_modulus t_rows t_strands t_letters t_listedMany t_listN t_listWhat t_table x3 x4 h) (cwV 2 hts gX11_makes_X11_by rfl rfl rfl (by decide +kernel) ⟨Nat.le_trans (by decide) hRf, Nat.le_trans (by decide) hRl⟩) (fun u => (w_X11_makes Y h_t h_p1 B_t N_p1 t_thrown t_n t_modulus t_rows t_strands t_letters t_listedMany t_listN t_listWhat t_f t_table p1)) [0, 2] [1, 3] [2, 0, 3, 1] rfl rfl rfl rfl (by decide) (fun _ => rfl) rfl 0 10 rfl rfl rfl rfl hl.1 rfl (Nat.le_of_ble_eq_true rfl) dX11_makes_51 (fun r51 u H locs h hP hD hS => ?_)
              try dsimp only at h
              have hP : va_P G vwCl (w_X11_makes Y h_t h_p1 B_t N_p1 t_thrown t_n t_modulus t_rows t_strands t_letters t_listedMany t_listN t_listWhat t_f t_table p1) H := hP
              have hD : va_D A (w_X11_makes Y h_t h_p1 B_t N_p1 t_thrown t_n t_modulus t_rows t_strands t_letters t_listedMany t_listN t_listWhat t_f t_table p1) := hD
              obtain ⟨hin, h⟩ := h
              refine va_iald hx hb hK hP 1 0 rfl rfl hin dX11_makes_54 ?_
              obtain ⟨ht, hf⟩ := h
              refine lv_icmp_eq (tgt := 60) hx hb dX11_makes_55 (by decide) (fun c9 => ?_) (fun c9 => ?_)
              · have h := ht c9
                refine lv_iinc (v := (x4 + 1)) (lv' := [(4, .int (x4 + 1)), (0, .ref h_t), (1, .ref h_p1), (2, .int x2), (3, .int x3)]) hx hb dX11_makes_60 hl (k := 4) rfl rfl (by decide) rfl (fun ls hl => ?_)
                refine lv_goto (tgt := 13) hx hb dX11_makes_63 (by decide) ?_
                exact rec13 (x4 + 1) H locs ls h hP hD hS (lv_sub hl [1, 2, 3, 4, 0] rfl)
              · have h := hf c9
                refine lv_iconst (v := 0) hx hb dX11_makes_58 (by decide) ?_
                obtain ⟨hz, h⟩ := h
                exact hret (0 : Int32)  H locs ls _ hP hD hS hz h dX11_makes_59
        exact L13 x3 I13 m13 hB13 _ (0 : Int32) H locs ls hI13 (Nat.lt_succ_self _) hP hD hS (lv_sub hl [1, 2, 3, 4, 0] rfl)
  exact L2 x2 I2 m2 hB2 _ (0 : Int32) H locs ls hI2 (Nat.lt_succ_self _) hP hD hS (lv_sub hl [1, 2, 3, 0] rfl)

set_option maxHeartbeats 4000000 in
set_option maxRecDepth 100000 in
theorem c_X11_makes (l : Launch) (G : va_G) (Y : Nat → ClassId) (tF sz : Nat) (h_t : Nat) (h_p1 : Nat) (B_t : Nat → Nat) (N_p1 : Nat) (t_thrown : Int32) (t_n : Int32) (t_modulus : Int32) (t_rows : Int32) (t_strands : Int32) (t_letters : Int32) (t_listedMany : Int32) (t_listN : Int32) (t_listWhat : Int32) (t_f : Nat → Int32) (t_table : Nat → Int32) (p1 : Nat → Int32) (x2 : Int32) {K : Int32 → Prop} (h : pX11_makes N_p1 t_n t_f t_table p1 x2 K) : Met l yX11_makes wsX11_makes ({ frames := 1, cells := 0, slots := 0, locals := 22 }) (PcM G Y tF sz (w_X11_makes Y h_t h_p1 B_t N_p1 t_thrown t_n t_modulus t_rows t_strands t_letters t_listedMany t_listN t_listWhat t_f t_table p1) [.ref h_t, .ref h_p1, .int x2]) (va_Qi (fun (r : Int32) (u : Unit) => K r ) (fun u t => BM G Y (va_A (w_X11_makes Y h_t h_p1 B_t N_p1 t_thrown t_n t_modulus t_rows t_strands t_letters t_listedMany t_listN t_listWhat t_f t_table p1) sz) (w_X11_makes Y h_t h_p1 B_t N_p1 t_thrown t_n t_modulus t_rows t_strands t_letters t_listedMany t_listN t_listWhat t_f t_table p1) t) (va_A (w_X11_makes Y h_t h_p1 B_t N_p1 t_thrown t_n t_modulus t_rows t_strands t_letters t_listedMany t_listN t_listWhat t_f t_table p1) sz)) 0 0 (va_A (w_X11_makes Y h_t h_p1 B_t N_p1 t_thrown t_n t_modulus t_rows t_strands t_letters t_listedMany t_listN t_listWhat t_f t_table p1) sz) := by
  refine Met.ofW (cc := cX11_makes) (maxL := 5) (ret := (some .boolean)) (by decide +kernel) rfl ?_
  intro p e s m args below meth c s₁ B hml hv
  obtain ⟨rfl, hsz, hP, hK, hD0, hE⟩ := hv
  have hts := atoms_spec (ws := wsX11_makes) B.pre
  have hown : s.vm.findClass RX11 = some m.cls := findClass_of_methodNamed B.named
  have hlocks := B.notSynchronized
  subst hsz
  have hD := hD0.self (sz := s.heap.size)
  exact wk_X11_makes h_t h_p1 B_t N_p1 t_thrown t_n t_modulus t_rows t_strands t_letters t_listedMany t_listN t_listWhat t_f t_table p1 x2 B.exec B.bytes hml hown hts hK hE (fun q h => Or.inr h) (Nat.le_refl _) (Nat.le_refl _) (fun r  H locs ls pc hP hD hS hz hk hd => W.zret (v := r) B.exec B.bytes B.returns hz.n (fun t ht hW => ⟨⟨r, (), rfl, hk, by rw [ht]; exact hP, va_K.moved hW.alike hK, hD⟩, hS.F ht⟩) hS.2.2 hd) hP hD h

abbrev w_X11_makes_al (Y : Nat → ClassId) (h_t : Nat) (B_t : Nat → Nat) (t_thrown : Int32) (t_n : Int32) (t_modulus : Int32) (t_rows : Int32) (t_strands : Int32) (t_letters : Int32) (t_listedMany : Int32) (t_listN : Int32) (t_listWhat : Int32) (t_f : Nat → Int32) (t_table : Nat → Int32) : va_W := [(h_t, .inr (10, [.int t_thrown, .int t_n, .ref (B_t 2), .int t_modulus, .ref (B_t 4), .ref (B_t 5), .ref (B_t 6), .ref (B_t 7), .ref (B_t 8), .ref (B_t 9), .ref (B_t 10), .int t_rows, .ref (B_t 12), .ref (B_t 13), .ref (B_t 14), .ref (B_t 15), .ref (B_t 16), .ref (B_t 17), .ref (B_t 18), .ref (B_t 19), .int t_strands, .int t_letters, .ref (B_t 22), .ref (B_t 23), .ref (B_t 24), .ref (B_t 25), .int t_listedMany, .int t_listN, .int t_listWhat])), ((B_t 5), .inl (Y 0, 8, .inl t_f)), ((B_t 2), .inl (Y 0, 64, .inl t_table))]

set_option maxHeartbeats 4000000 in
set_option maxRecDepth 100000 in
theorem wk_X11_makes_al {p : Program} {l : Launch} {e : Env} {R : Room} {s : State} {m : MethodId} {args : Array Value} {below : List Frame} {meth : Method} {c : Code} {Q : State → Prop} {G : va_G} {Y : Nat → ClassId} {tF : Nat} {A : Nat → Prop} (h_t : Nat) (B_t : Nat → Nat) (t_thrown : Int32) (t_n : Int32) (t_modulus : Int32) (t_rows : Int32) (t_strands : Int32) (t_letters : Int32) (t_listedMany : Int32) (t_listN : Int32) (t_listWhat : Int32) (t_f : Nat → Int32) (t_table : Nat → Int32) (x2 : Int32) {K : Int32 → Prop} (hx : p.tables.exec = Jvm.exec) (hb : c.code = cX11_makes) (hml : c.maxLocals = 5) (hown : s.vm.findClass RX11 = some m.cls) (hts : ∀ w ∈ wsX11_makes, w.before args s = true) (hK : va_K G vwCl (tyL Y) s) (hE : Ev A tF s) (hA : ∀ q, s.heap.size ≤ q → A q) (hRf : 1 ≤ R.frames) (hRl : 22 ≤ R.locals) (hret : ∀ (r : Int32)  (H : Heap) (locs : List Loc) (ls : Array Slot) (pc : Nat), va_P G vwCl (w_X11_makes_al Y h_t B_t t_thrown t_n t_modulus t_rows t_strands t_letters t_listedMany t_listN t_listWhat t_f t_table) H → va_D A (w_X11_makes_al Y h_t B_t t_thrown t_n t_modulus t_rows t_strands t_letters t_listedMany t_listN t_listWhat t_f t_table) → va_S A s.heap H locs → zb r → K r → decode cX11_makes pc = .ok (.ireturn, 1) → W p l e R s m args below meth c H locs 0 0 Q (F0 m pc ls [.int r])) (hP : va_P G vwCl (w_X11_makes_al Y h_t B_t t_thrown t_n t_modulus t_rows t_strands t_letters t_listedMany t_listN t_listWhat t_f t_table) s.heap) (hD : va_D A (w_X11_makes_al Y h_t B_t t_thrown t_n t_modulus t_rows t_strands t_letters t_listedMany t_listN t_listWhat t_f t_table)) (h : pX11_makes 64 t_n t_f t_table t_table x2 K) : W p l e R s m args below meth c s.heap [] 0 0 Q (entryFrame m ([.ref h_t, .ref (B_t 2), .int x2] : List Value).toArray 5) := by
  have inX11 : ∀ w ∈ u_ws RX11 TX11 29, w ∈ wsX11_makes := by decide +kernel
  have hf23 := hts (.fieldLink RX11 23 "RackBenchModel" "f" "[I") (by decide +kernel)
  have hf9 := hts (.fieldLink RX11 9 "RackBenchModel" "n" "I") (by decide +kernel)
  have hl := lv_entry ([.ref h_t, .ref (B_t 2), .int x2]) (n := 5) (Nat.le_of_ble_eq_true rfl)
  rw [lg_entry_eq]
  generalize (lg_sl ([.ref h_t, .ref (B_t 2), .int x2]) ++ List.replicate (5 - (lg_sl ([.ref h_t, .ref (B_t 2), .int x2])).length) Slot.unset).toArray = ls at hl ⊢
  have hl : lv_has ls 5 [(0, .ref h_t), (1, .ref (B_t 2)), (2, .int x2)] := hl
  generalize hH0 : s.heap = H at hP ⊢
  have hS : va_S A s.heap H [] := by rw [← hH0]; exact va_S.rf
  clear hH0
  generalize ([] : List Loc) = locs at hS ⊢
  refine lv_iconst (v := 0) hx hb dX11_makes_0 (by decide) ?_
  refine lv_istore_n (lv' := [(3, .int (0 : Int32)), (0, .ref h_t), (1, .ref (B_t 2)), (2, .int x2)]) hx hb dX11_makes_1 rfl hl (by decide) rfl (fun ls hl => ?_)
  obtain ⟨I2, m2, hI2, hB2⟩ := h
  have L2 : ∀ (x2 : Int32) (I2 : Int32 → Prop) (m2 : Int32 → Nat), (∀ (x3 : Int32), I2 x3 → pX11_makes_2 64 t_n t_f t_table t_table K x2 x3 (fun x3' => I2 x3' ∧ m2 x3' < m2 x3)) → ∀ (n : Nat) (x3 : Int32) (H : Heap) (locs : List Loc) (ls : Array Slot), I2 x3 → m2 x3 < n → va_P G vwCl (w_X11_makes_al Y h_t B_t t_thrown t_n t_modulus t_rows t_strands t_letters t_listedMany t_listN t_listWhat t_f t_table) H → va_D A (w_X11_makes_al Y h_t B_t t_thrown t_n t_modulus t_rows t_strands t_letters t_listedMany t_listN t_listWhat t_f t_table) → va_S A s.heap H locs → lv_has ls 5 [(0, .ref h_t), (1, .ref (B_t 2)), (2, .int x2), (3, .int x3)] → W p l e R s m args below meth c H locs 0 0 Q (F0 m 2 ls []) := by
    intro x2 I2 m2 hB2 n
    induction n with
    | zero => intro x3 H locs ls _ hm; exact absurd hm (Nat.not_lt_zero _)
    | succ n ih =>
      intro x3 H locs ls hI hm hP hD hS hl
      obtain ⟨R2, h, rec2⟩ : ∃ R2 : Int32 → Prop, pX11_makes_2 64 t_n t_f t_table t_table K x2 x3 R2 ∧ ∀ (x3 : Int32) (H : Heap) (locs : List Loc) (ls : Array Slot), R2 x3 → va_P G vwCl (w_X11_makes_al Y h_t B_t t_thrown t_n t_modulus t_rows t_strands t_letters t_listedMany t_listN t_listWhat t_f t_table) H → va_D A (w_X11_makes_al Y h_t B_t t_thrown t_n t_modulus t_rows t_strands t_letters t_listedMany t_listN t_listWhat t_f t_table) → va_S A s.heap H locs → lv_has ls 5 [(0, .ref h_t), (1, .ref (B_t 2)), (2, .int x2), (3, .int x3)] → W p l e R s m args below meth c H locs 0 0 Q (F0 m 2 ls []) := ⟨_, hB2 x3 hI, fun x3 H locs ls hh hP hD hS hl => ih x3 H locs ls hh.1 (Nat.lt_of_lt_of_le hh.2 (Nat.le_of_lt_succ hm)) hP hD hS hl⟩
      refine lv_iload_n hx hb dX11_makes_2 rfl (lv_at hl 3 rfl) ?_
      refine lv_aload_n hx hb dX11_makes_3 rfl (lv_at hl 0 rfl) ?_
      refine va_get (D := G) (ci := 10) (v := .int t_n) (C := RX11) (T := TX11) (N := 29) hx hb hts inX11 hown hK hP 0 rfl rfl 1 (by decide) hf9 (fun _ h9 => h9) rfl dX11_makes_4 ?_
      obtain ⟨ht, hf⟩ := h
      refine lv_icmp_ge (tgt := 72) hx hb dX11_makes_7 (by decide) (fun c9 => ?_) (fun c9 => ?_)
      · have h := ht c9
        refine lv_iconst (v := 1) hx hb dX11_makes_72 (by decide) ?_
        obtain ⟨hz, h⟩ := h
        exact hret (1 : Int32)  H locs ls _ hP hD hS hz h dX11_makes_73
      · have h := hf c9
        refine lv_iconst (v := 0) hx hb dX11_makes_10 (by decide) ?_
        refine lv_istore (lv' := [(4, .int (0 : Int32)), (0, .ref h_t), (1, .ref (B_t 2)), (2, .int x2), (3, .int x3)]) hx hb dX11_makes_11 hl (by decide) rfl (fun ls hl => ?_)
        obtain ⟨I13, m13, hI13, hB13⟩ := h
        have L13 : ∀ (x3 : Int32) (I13 : Int32 → Prop) (m13 : Int32 → Nat), (∀ (x4 : Int32), I13 x4 → pX11_makes_13 64 t_n t_f t_table t_table R2 K x2 x3 x4 (fun x4' => I13 x4' ∧ m13 x4' < m13 x4)) → ∀ (n : Nat) (x4 : Int32) (H : Heap) (locs : List Loc) (ls : Array Slot), I13 x4 → m13 x4 < n → va_P G vwCl (w_X11_makes_al Y h_t B_t t_thrown t_n t_modulus t_rows t_strands t_letters t_listedMany t_listN t_listWhat t_f t_table) H → va_D A (w_X11_makes_al Y h_t B_t t_thrown t_n t_modulus t_rows t_strands t_letters t_listedMany t_listN t_listWhat t_f t_table) → va_S A s.heap H locs → lv_has ls 5 [(0, .ref h_t), (1, .ref (B_t 2)), (2, .int x2), (3, .int x3), (4, .int x4)] → W p l e R s m args below meth c H locs 0 0 Q (F0 m 13 ls []) := by
          intro x3 I13 m13 hB13 n
          induction n with
          | zero => intro x4 H locs ls _ hm; exact absurd hm (Nat.not_lt_zero _)
          | succ n ih =>
            intro x4 H locs ls hI hm hP hD hS hl
            obtain ⟨R13, h, rec13⟩ : ∃ R13 : Int32 → Prop, pX11_makes_13 64 t_n t_f t_table t_table R2 K x2 x3 x4 R13 ∧ ∀ (x4 : Int32) (H : Heap) (locs : List Loc) (ls : Array Slot), R13 x4 → va_P G vwCl (w_X11_makes_al Y h_t B_t t_thrown t_n t_modulus t_rows t_strands t_letters t_listedMany t_listN t_listWhat t_f t_table) H → va_D A (w_X11_makes_al Y h_t B_t t_thrown t_n t_modulus t_rows t_strands t_letters t_listedMany t_listN t_listWhat t_f t_table) → va_S A s.heap H locs → lv_has ls 5 [(0, .ref h_t), (1, .ref (B_t 2)), (2, .int x2), (3, .int x3), (4, .int x4)] → W p l e R s m args below meth c H locs 0 0 Q (F0 m 13 ls []) := ⟨_, hB13 x4 hI, fun x4 H locs ls hh hP hD hS hl => ih x4 H locs ls hh.1 (Nat.lt_of_lt_of_le hh.2 (Nat.le_of_lt_succ hm)) hP hD hS hl⟩
            refine lv_iload hx hb dX11_makes_13 (lv_at hl 4 rfl) ?_
            refine lv_aload_n hx hb dX11_makes_15 rfl (lv_at hl 0 rfl) ?_
            refine va_get (D := G) (ci := 10) (v := .int t_n) (C := RX11) (T := TX11) (N := 29) hx hb hts inX11 hown hK hP 0 rfl rfl 1 (by decide) hf9 (fun _ h9 => h9) rfl dX11_makes_16 ?_
            obtain ⟨ht, hf⟩ := h
            refine lv_icmp_ge (tgt := 66) hx hb dX11_makes_19 (by decide) (fun c9 => ?_) (fun c9 => ?_)
            · have h := ht c9
              refine lv_iinc (v := (x3 + 1)) (lv' := [(3, .int (x3 + 1)), (0, .ref h_t), (1, .ref (B_t 2)), (2, .int x2), (4, .int x4)]) hx hb dX11_makes_66 hl (k := 3) rfl rfl (by decide) rfl (fun ls hl => ?_)
              refine lv_goto (tgt := 2) hx hb dX11_makes_69 (by decide) ?_
              exact rec2 (x3 + 1) H locs ls h hP hD hS (lv_sub hl [1, 2, 3, 0] rfl)
            · have h := hf c9
              refine lv_aload_n hx hb dX11_makes_22 rfl (lv_at hl 1 rfl) ?_
              refine lv_iload_n hx hb dX11_makes_23 rfl (lv_at hl 2 rfl) ?_
              refine lv_bipush (v := 8) hx hb dX11_makes_24 (by decide) ?_
              refine lv_aload_n hx hb dX11_makes_26 rfl (lv_at hl 0 rfl) ?_
              refine va_get (D := G) (ci := 10) (v := .ref (B_t 5)) (C := RX11) (T := TX11) (N := 29) hx hb hts inX11 hown hK hP 0 rfl rfl 5 (by decide) hf23 (fun _ h9 => h9) rfl dX11_makes_27 ?_
              refine lv_iload_n hx hb dX11_makes_30 rfl (lv_at hl 3 rfl) ?_
              obtain ⟨hin, h⟩ := h
              refine va_iald hx hb hK hP 1 0 rfl rfl hin dX11_makes_31 ?_
              refine lv_imul hx hb dX11_makes_32 ?_
              refine lv_iadd hx hb dX11_makes_33 ?_
              refine lv_aload_n hx hb dX11_makes_34 rfl (lv_at hl 0 rfl) ?_
              refine va_get (D := G) (ci := 10) (v := .ref (B_t 5)) (C := RX11) (T := TX11) (N := 29) hx hb hts inX11 hown hK hP 0 rfl rfl 5 (by decide) hf23 (fun _ h9 => h9) rfl dX11_makes_35 ?_
              refine lv_iload hx hb dX11_makes_38 (lv_at hl 4 rfl) ?_
              obtain ⟨hin, h⟩ := h
              refine va_iald hx hb hK hP 1 0 rfl rfl hin dX11_makes_40 ?_
              refine lv_iadd hx hb dX11_makes_41 ?_
              obtain ⟨hin, h⟩ := h
              refine va_iald hx hb hK hP 2 0 rfl rfl hin dX11_makes_42 ?_
              refine lv_aload_n hx hb dX11_makes_43 rfl (lv_at hl 0 rfl) ?_
              refine va_get (D := G) (ci := 10) (v := .ref (B_t 5)) (C := RX11) (T := TX11) (N := 29) hx hb hts inX11 hown hK hP 0 rfl rfl 5 (by decide) hf23 (fun _ h9 => h9) rfl dX11_makes_44 ?_
              refine lv_aload_n hx hb dX11_makes_47 rfl (lv_at hl 0 rfl) ?_
              refine lv_iload_n hx hb dX11_makes_48 rfl (lv_at hl 3 rfl) ?_
              refine lv_iload hx hb dX11_makes_49 (lv_at hl 4 rfl) ?_
              refine mc_iV ⟨hx, hb, hml, hown, hts⟩ hK hE hA hP hD hS (c_X11_by l G Y tF H.size h_t B_t t_thrown t_n t_modulus t_rows t_strands t_letters t_listedMany t_listN t_listWhat t_table x3 x4 h) (cwV 2 hts gX11_makes_X11_by rfl rfl rfl (by decide +kernel) ⟨Nat.le_trans (by decide) hRf, Nat.le_trans (by decide) hRl⟩) (fun u => (w_X11_makes_al Y h_t B_t t_thrown t_n t_modulus t_rows t_strands t_letters t_listedMany t_listN t_listWhat t_f t_table)) [0, 2] [1] [1, 0, 2] rfl rfl rfl rfl (by decide) (fun _ => rfl) rfl 0 10 rfl rfl rfl rfl hl.1 rfl (Nat.le_of_ble_eq_true rfl) dX11_makes_51 (fun r51 u H locs h hP hD hS => ?_)
              try dsimp only at h
              have hP : va_P G vwCl (w_X11_makes_al Y h_t B_t t_thrown t_n t_modulus t_rows t_strands t_letters t_listedMany t_listN t_listWhat t_f t_table) H := hP
              have hD : va_D A (w_X11_makes_al Y h_t B_t t_thrown t_n t_modulus t_rows t_strands t_letters t_listedMany t_listN t_listWhat t_f t_table) := hD
              obtain ⟨hin, h⟩ := h
              refine va_iald hx hb hK hP 1 0 rfl rfl hin dX11_makes_54 ?_
              obtain ⟨ht, hf⟩ := h
              refine lv_icmp_eq (tgt := 60) hx hb dX11_makes_55 (by decide) (fun c9 => ?_) (fun c9 => ?_)
              · have h := ht c9
                refine lv_iinc (v := (x4 + 1)) (lv' := [(4, .int (x4 + 1)), (0, .ref h_t), (1, .ref (B_t 2)), (2, .int x2), (3, .int x3)]) hx hb dX11_makes_60 hl (k := 4) rfl rfl (by decide) rfl (fun ls hl => ?_)
                refine lv_goto (tgt := 13) hx hb dX11_makes_63 (by decide) ?_
                exact rec13 (x4 + 1) H locs ls h hP hD hS (lv_sub hl [1, 2, 3, 4, 0] rfl)
              · have h := hf c9
                refine lv_iconst (v := 0) hx hb dX11_makes_58 (by decide) ?_
                obtain ⟨hz, h⟩ := h
                exact hret (0 : Int32)  H locs ls _ hP hD hS hz h dX11_makes_59
        exact L13 x3 I13 m13 hB13 _ (0 : Int32) H locs ls hI13 (Nat.lt_succ_self _) hP hD hS (lv_sub hl [1, 2, 3, 4, 0] rfl)
  exact L2 x2 I2 m2 hB2 _ (0 : Int32) H locs ls hI2 (Nat.lt_succ_self _) hP hD hS (lv_sub hl [1, 2, 3, 0] rfl)

set_option maxHeartbeats 4000000 in
set_option maxRecDepth 100000 in
theorem c_X11_makes_al (l : Launch) (G : va_G) (Y : Nat → ClassId) (tF sz : Nat) (h_t : Nat) (B_t : Nat → Nat) (t_thrown : Int32) (t_n : Int32) (t_modulus : Int32) (t_rows : Int32) (t_strands : Int32) (t_letters : Int32) (t_listedMany : Int32) (t_listN : Int32) (t_listWhat : Int32) (t_f : Nat → Int32) (t_table : Nat → Int32) (x2 : Int32) {K : Int32 → Prop} (h : pX11_makes 64 t_n t_f t_table t_table x2 K) : Met l yX11_makes wsX11_makes ({ frames := 1, cells := 0, slots := 0, locals := 22 }) (PcM G Y tF sz (w_X11_makes_al Y h_t B_t t_thrown t_n t_modulus t_rows t_strands t_letters t_listedMany t_listN t_listWhat t_f t_table) [.ref h_t, .ref (B_t 2), .int x2]) (va_Qi (fun (r : Int32) (u : Unit) => K r ) (fun u t => BM G Y (va_A (w_X11_makes_al Y h_t B_t t_thrown t_n t_modulus t_rows t_strands t_letters t_listedMany t_listN t_listWhat t_f t_table) sz) (w_X11_makes_al Y h_t B_t t_thrown t_n t_modulus t_rows t_strands t_letters t_listedMany t_listN t_listWhat t_f t_table) t) (va_A (w_X11_makes_al Y h_t B_t t_thrown t_n t_modulus t_rows t_strands t_letters t_listedMany t_listN t_listWhat t_f t_table) sz)) 0 0 (va_A (w_X11_makes_al Y h_t B_t t_thrown t_n t_modulus t_rows t_strands t_letters t_listedMany t_listN t_listWhat t_f t_table) sz) := by
  refine Met.ofW (cc := cX11_makes) (maxL := 5) (ret := (some .boolean)) (by decide +kernel) rfl ?_
  intro p e s m args below meth c s₁ B hml hv
  obtain ⟨rfl, hsz, hP, hK, hD0, hE⟩ := hv
  have hts := atoms_spec (ws := wsX11_makes) B.pre
  have hown : s.vm.findClass RX11 = some m.cls := findClass_of_methodNamed B.named
  have hlocks := B.notSynchronized
  subst hsz
  have hD := hD0.self (sz := s.heap.size)
  exact wk_X11_makes_al h_t B_t t_thrown t_n t_modulus t_rows t_strands t_letters t_listedMany t_listN t_listWhat t_f t_table x2 B.exec B.bytes hml hown hts hK hE (fun q h => Or.inr h) (Nat.le_refl _) (Nat.le_refl _) (fun r  H locs ls pc hP hD hS hz hk hd => W.zret (v := r) B.exec B.bytes B.returns hz.n (fun t ht hW => ⟨⟨r, (), rfl, hk, by rw [ht]; exact hP, va_K.moved hW.alike hK, hD⟩, hS.F ht⟩) hS.2.2 hd) hP hD h

abbrev w_X11_keepers (Y : Nat → ClassId) (h_t : Nat) (B_t : Nat → Nat) (t_thrown : Int32) (t_n : Int32) (t_modulus : Int32) (t_rows : Int32) (t_strands : Int32) (t_letters : Int32) (t_listedMany : Int32) (t_listN : Int32) (t_listWhat : Int32) (t_f : Nat → Int32) (t_table : Nat → Int32) : va_W := [(h_t, .inr (10, [.int t_thrown, .int t_n, .ref (B_t 2), .int t_modulus, .ref (B_t 4), .ref (B_t 5), .ref (B_t 6), .ref (B_t 7), .ref (B_t 8), .ref (B_t 9), .ref (B_t 10), .int t_rows, .ref (B_t 12), .ref (B_t 13), .ref (B_t 14), .ref (B_t 15), .ref (B_t 16), .ref (B_t 17), .ref (B_t 18), .ref (B_t 19), .int t_strands, .int t_letters, .ref (B_t 22), .ref (B_t 23), .ref (B_t 24), .ref (B_t 25), .int t_listedMany, .int t_listN, .int t_listWhat])), ((B_t 5), .inl (Y 0, 8, .inl t_f)), ((B_t 2), .inl (Y 0, 64, .inl t_table))]

set_option maxHeartbeats 4000000 in
set_option maxRecDepth 100000 in
theorem wk_X11_keepers {p : Program} {l : Launch} {e : Env} {R : Room} {s : State} {m : MethodId} {args : Array Value} {below : List Frame} {meth : Method} {c : Code} {Q : State → Prop} {G : va_G} {Y : Nat → ClassId} {tF : Nat} {A : Nat → Prop} (h_t : Nat) (B_t : Nat → Nat) (t_thrown : Int32) (t_n : Int32) (t_modulus : Int32) (t_rows : Int32) (t_strands : Int32) (t_letters : Int32) (t_listedMany : Int32) (t_listN : Int32) (t_listWhat : Int32) (t_f : Nat → Int32) (t_table : Nat → Int32) {K : Int32 → Int32 → (Nat → Int32) → Prop} (hx : p.tables.exec = Jvm.exec) (hb : c.code = cX11_keepers) (hml : c.maxLocals = 3) (hown : s.vm.findClass RX11 = some m.cls) (hts : ∀ w ∈ wsX11_keepers, w.before args s = true) (hK : va_K G vwCl (tyL Y) s) (hE : Ev A tF s) (hA : ∀ q, s.heap.size ≤ q → A q) (hRf : 12 ≤ R.frames) (hRl : 248 ≤ R.locals) (hret : ∀ (r : Int32) (t_thrown : Int32) (t_f : Nat → Int32) (H : Heap) (locs : List Loc) (ls : Array Slot) (pc : Nat), va_P G vwCl (w_X11_keepers Y h_t B_t t_thrown t_n t_modulus t_rows t_strands t_letters t_listedMany t_listN t_listWhat t_f t_table) H → va_D A (w_X11_keepers Y h_t B_t t_thrown t_n t_modulus t_rows t_strands t_letters t_listedMany t_listN t_listWhat t_f t_table) → va_S A s.heap H locs → K r t_thrown t_f → decode cX11_keepers pc = .ok (.ireturn, 1) → W p l e R s m args below meth c H locs 0 0 Q (F0 m pc ls [.int r])) (hP : va_P G vwCl (w_X11_keepers Y h_t B_t t_thrown t_n t_modulus t_rows t_strands t_letters t_listedMany t_listN t_listWhat t_f t_table) s.heap) (hD : va_D A (w_X11_keepers Y h_t B_t t_thrown t_n t_modulus t_rows t_strands t_letters t_listedMany t_listN t_listWhat t_f t_table)) (h : pX11_keepers t_thrown t_n t_f t_table K) : W p l e R s m args below meth c s.heap [] 0 0 Q (entryFrame m ([.ref h_t] : List Value).toArray 3) := by
  have inX11 : ∀ w ∈ u_ws RX11 TX11 29, w ∈ wsX11_keepers := by decide +kernel
  have hf13 := hts (.fieldLink RX11 13 "RackBenchModel" "table" "[I") (by decide +kernel)
  have hf23 := hts (.fieldLink RX11 23 "RackBenchModel" "f" "[I") (by decide +kernel)
  have hf83 := hts (.fieldLink RX11 83 "RackBenchModel" "thrown" "I") (by decide +kernel)
  have hf9 := hts (.fieldLink RX11 9 "RackBenchModel" "n" "I") (by decide +kernel)
  have hl := lv_entry ([.ref h_t]) (n := 3) (Nat.le_of_ble_eq_true rfl)
  rw [lg_entry_eq]
  generalize (lg_sl ([.ref h_t]) ++ List.replicate (3 - (lg_sl ([.ref h_t])).length) Slot.unset).toArray = ls at hl ⊢
  have hl : lv_has ls 3 [(0, .ref h_t)] := hl
  generalize hH0 : s.heap = H at hP ⊢
  have hS : va_S A s.heap H [] := by rw [← hH0]; exact va_S.rf
  clear hH0
  generalize ([] : List Loc) = locs at hS ⊢
  refine lv_aload_n hx hb dX11_keepers_0 rfl (lv_at hl 0 rfl) ?_
  refine lv_iconst (v := 0) hx hb dX11_keepers_1 (by decide) ?_
  refine va_put (D := G) (ci := 10) (v := .int (0 : Int32)) (ty := .int) (C := RX11) (T := TX11) (N := 29) hx hb hts inX11 tyX11 tyX11_ok nmX11 hown hK hP hD hS 0 rfl rfl 0 (by decide) hf83 (fun _ h9 => h9) rfl (by decide +kernel) rfl rfl (Nat.le_of_ble_eq_true rfl) dX11_keepers_2 (fun H locs hP hD hS => ?_)
  have hP : va_P G vwCl (w_X11_keepers Y h_t B_t (0 : Int32) t_n t_modulus t_rows t_strands t_letters t_listedMany t_listN t_listWhat t_f t_table) H := hP
  have hD : va_D A (w_X11_keepers Y h_t B_t (0 : Int32) t_n t_modulus t_rows t_strands t_letters t_listedMany t_listN t_listWhat t_f t_table) := hD
  refine lv_iconst (v := 0) hx hb dX11_keepers_5 (by decide) ?_
  refine lv_istore_n (lv' := [(1, .int (0 : Int32)), (0, .ref h_t)]) hx hb dX11_keepers_6 rfl hl (by decide) rfl (fun ls hl => ?_)
  refine lv_iconst (v := 0) hx hb dX11_keepers_7 (by decide) ?_
  refine lv_istore_n (lv' := [(2, .int (0 : Int32)), (1, .int (0 : Int32)), (0, .ref h_t)]) hx hb dX11_keepers_8 rfl hl (by decide) rfl (fun ls hl => ?_)
  obtain ⟨I9, m9, hI9, hB9⟩ := h
  have L9 : ∀ (t_thrown : Int32) (I9 : Int32 → Int32 → (Nat → Int32) → Prop) (m9 : Int32 → Int32 → (Nat → Int32) → Nat), (∀ (x1 : Int32) (x2 : Int32) (t_f : Nat → Int32), I9 x1 x2 t_f → pX11_keepers_9 t_n t_table K t_thrown x1 x2 t_f (fun x1' x2' t_f' => I9 x1' x2' t_f' ∧ m9 x1' x2' t_f' < m9 x1 x2 t_f)) → ∀ (n : Nat) (x1 : Int32) (x2 : Int32) (t_f : Nat → Int32) (H : Heap) (locs : List Loc) (ls : Array Slot), I9 x1 x2 t_f → m9 x1 x2 t_f < n → va_P G vwCl (w_X11_keepers Y h_t B_t t_thrown t_n t_modulus t_rows t_strands t_letters t_listedMany t_listN t_listWhat t_f t_table) H → va_D A (w_X11_keepers Y h_t B_t t_thrown t_n t_modulus t_rows t_strands t_letters t_listedMany t_listN t_listWhat t_f t_table) → va_S A s.heap H locs → lv_has ls 3 [(0, .ref h_t), (1, .int x1), (2, .int x2)] → W p l e R s m args below meth c H locs 0 0 Q (F0 m 9 ls []) := by
    intro t_thrown I9 m9 hB9 n
    induction n with
    | zero => intro x1 x2 t_f H locs ls _ hm; exact absurd hm (Nat.not_lt_zero _)
    | succ n ih =>
      intro x1 x2 t_f H locs ls hI hm hP hD hS hl
      obtain ⟨R9, h, rec9⟩ : ∃ R9 : Int32 → Int32 → (Nat → Int32) → Prop, pX11_keepers_9 t_n t_table K t_thrown x1 x2 t_f R9 ∧ ∀ (x1 : Int32) (x2 : Int32) (t_f : Nat → Int32) (H : Heap) (locs : List Loc) (ls : Array Slot), R9 x1 x2 t_f → va_P G vwCl (w_X11_keepers Y h_t B_t t_thrown t_n t_modulus t_rows t_strands t_letters t_listedMany t_listN t_listWhat t_f t_table) H → va_D A (w_X11_keepers Y h_t B_t t_thrown t_n t_modulus t_rows t_strands t_letters t_listedMany t_listN t_listWhat t_f t_table) → va_S A s.heap H locs → lv_has ls 3 [(0, .ref h_t), (1, .int x1), (2, .int x2)] → W p l e R s m args below meth c H locs 0 0 Q (F0 m 9 ls []) := ⟨_, hB9 x1 x2 t_f hI, fun x1 x2 t_f H locs ls hh hP hD hS hl => ih x1 x2 t_f H locs ls hh.1 (Nat.lt_of_lt_of_le hh.2 (Nat.le_of_lt_succ hm)) hP hD hS hl⟩
      refine lv_iload_n hx hb dX11_keepers_9 rfl (lv_at hl 2 rfl) ?_
      refine lv_aload_n hx hb dX11_keepers_10 rfl (lv_at hl 0 rfl) ?_
      refine va_get (D := G) (ci := 10) (v := .int t_n) (C := RX11) (T := TX11) (N := 29) hx hb hts inX11 hown hK hP 0 rfl rfl 1 (by decide) hf9 (fun _ h9 => h9) rfl dX11_keepers_11 ?_
      refine mc_iS ⟨hx, hb, hml, hown, hts⟩ hK hE hA hP hD hS (c_X11_factorial 10 l G Y tF H.size t_n h) (va_cwS 1 hts gX11_keepers_X11_factorial rfl rfl rfl (by decide +kernel) ⟨Nat.le_trans (by decide) hRf, Nat.le_trans (by decide) hRl⟩) (fun u => (w_X11_keepers Y h_t B_t t_thrown t_n t_modulus t_rows t_strands t_letters t_listedMany t_listN t_listWhat t_f t_table)) [] [0, 1, 2] [0, 1, 2] rfl rfl rfl rfl (by decide) (fun _ => rfl) rfl rfl hl.1 rfl (Nat.le_of_ble_eq_true rfl) dX11_keepers_14 (fun r14 u H locs h hP hD hS => ?_)
      try dsimp only at h
      have hP : va_P G vwCl (w_X11_keepers Y h_t B_t t_thrown t_n t_modulus t_rows t_strands t_letters t_listedMany t_listN t_listWhat t_f t_table) H := hP
      have hD : va_D A (w_X11_keepers Y h_t B_t t_thrown t_n t_modulus t_rows t_strands t_letters t_listedMany t_listN t_listWhat t_f t_table) := hD
      obtain ⟨ht, hf⟩ := h
      refine lv_icmp_ge (tgt := 58) hx hb dX11_keepers_17 (by decide) (fun c9 => ?_) (fun c9 => ?_)
      · have h := ht c9
        refine lv_iload_n hx hb dX11_keepers_58 rfl (lv_at hl 1 rfl) ?_
        exact hret x1 t_thrown t_f H locs ls _ hP hD hS h dX11_keepers_59
      · have h := hf c9
        refine lv_aload_n hx hb dX11_keepers_20 rfl (lv_at hl 0 rfl) ?_
        refine va_get (D := G) (ci := 10) (v := .int t_n) (C := RX11) (T := TX11) (N := 29) hx hb hts inX11 hown hK hP 0 rfl rfl 1 (by decide) hf9 (fun _ h9 => h9) rfl dX11_keepers_21 ?_
        refine lv_iload_n hx hb dX11_keepers_24 rfl (lv_at hl 2 rfl) ?_
        refine lv_aload_n hx hb dX11_keepers_25 rfl (lv_at hl 0 rfl) ?_
        refine va_get (D := G) (ci := 10) (v := .ref (B_t 5)) (C := RX11) (T := TX11) (N := 29) hx hb hts inX11 hown hK hP 0 rfl rfl 5 (by decide) hf23 (fun _ h9 => h9) rfl dX11_keepers_26 ?_
        refine mc_vS ⟨hx, hb, hml, hown, hts⟩ hK hE hA hP hD hS (c_X11_permutation l G Y tF H.size (B_t 5) 8 t_f t_n x2 h) (va_cwS 3 hts gX11_keepers_X11_permutation rfl rfl rfl (by decide +kernel) ⟨Nat.le_trans (by decide) hRf, Nat.le_trans (by decide) hRl⟩) (fun u => (w_X11_keepers Y h_t B_t t_thrown t_n t_modulus t_rows t_strands t_letters t_listedMany t_listN t_listWhat u t_table)) [1] [0, 2] [0, 2, 1] rfl rfl rfl rfl (by decide) (fun _ => rfl) rfl rfl hl.1 rfl (Nat.le_of_ble_eq_true rfl) dX11_keepers_29 (fun u H locs h hP hD hS => ?_)
        obtain ⟨t_f_29, rfl⟩ : ∃ z, z = u := ⟨_, rfl⟩
        try dsimp only at h
        have hP : va_P G vwCl (w_X11_keepers Y h_t B_t t_thrown t_n t_modulus t_rows t_strands t_letters t_listedMany t_listN t_listWhat t_f_29 t_table) H := hP
        have hD : va_D A (w_X11_keepers Y h_t B_t t_thrown t_n t_modulus t_rows t_strands t_letters t_listedMany t_listN t_listWhat t_f_29 t_table) := hD
        refine lv_iload_n hx hb dX11_keepers_32 rfl (lv_at hl 1 rfl) ?_
        refine lv_aload_n hx hb dX11_keepers_33 rfl (lv_at hl 0 rfl) ?_
        refine lv_aload_n hx hb dX11_keepers_34 rfl (lv_at hl 0 rfl) ?_
        refine va_get (D := G) (ci := 10) (v := .ref (B_t 2)) (C := RX11) (T := TX11) (N := 29) hx hb hts inX11 hown hK hP 0 rfl rfl 2 (by decide) hf13 (fun _ h9 => h9) rfl dX11_keepers_35 ?_
        refine lv_iconst (v := 0) hx hb dX11_keepers_38 (by decide) ?_
        refine mc_iV ⟨hx, hb, hml, hown, hts⟩ hK hE hA hP hD hS (c_X11_makes_al l G Y tF H.size h_t B_t t_thrown t_n t_modulus t_rows t_strands t_letters t_listedMany t_listN t_listWhat t_f_29 t_table (0 : Int32) h) (cwV 2 hts gX11_keepers_X11_makes rfl rfl rfl (by decide +kernel) ⟨Nat.le_trans (by decide) hRf, Nat.le_trans (by decide) hRl⟩) (fun u => (w_X11_keepers Y h_t B_t t_thrown t_n t_modulus t_rows t_strands t_letters t_listedMany t_listN t_listWhat t_f_29 t_table)) [0, 1, 2] [] [0, 1, 2] rfl rfl rfl rfl (by decide) (fun _ => rfl) rfl 0 10 rfl rfl rfl rfl hl.1 rfl (Nat.le_of_ble_eq_true rfl) dX11_keepers_39 (fun r39 u H locs h hP hD hS => ?_)
        try dsimp only at h
        have hP : va_P G vwCl (w_X11_keepers Y h_t B_t t_thrown t_n t_modulus t_rows t_strands t_letters t_listedMany t_listN t_listWhat t_f_29 t_table) H := hP
        have hD : va_D A (w_X11_keepers Y h_t B_t t_thrown t_n t_modulus t_rows t_strands t_letters t_listedMany t_listN t_listWhat t_f_29 t_table) := hD
        obtain ⟨ht, hf⟩ := h
        refine lv_if_eq (tgt := 49) hx hb dX11_keepers_42 (by decide) (fun c9 => ?_) (fun c9 => ?_)
        · have h := ht c9
          refine lv_iconst (v := 0) hx hb dX11_keepers_49 (by decide) ?_
          refine lv_iadd hx hb dX11_keepers_50 ?_
          refine lv_istore_n (lv' := [(1, .int (x1 + (0 : Int32))), (0, .ref h_t), (2, .int x2)]) hx hb dX11_keepers_51 rfl hl (by decide) rfl (fun ls hl => ?_)
          refine lv_iinc (v := (x2 + 1)) (lv' := [(2, .int (x2 + 1)), (1, .int (x1 + (0 : Int32))), (0, .ref h_t)]) hx hb dX11_keepers_52 hl (k := 2) rfl rfl (by decide) rfl (fun ls hl => ?_)
          refine lv_goto (tgt := 9) hx hb dX11_keepers_55 (by decide) ?_
          exact rec9 (x1 + (0 : Int32)) (x2 + 1) t_f_29 H locs ls h hP hD hS (lv_sub hl [2, 1, 0] rfl)
        · have h := hf c9
          refine lv_iconst (v := 1) hx hb dX11_keepers_45 (by decide) ?_
          refine lv_goto (tgt := 50) hx hb dX11_keepers_46 (by decide) ?_
          refine lv_iadd hx hb dX11_keepers_50 ?_
          refine lv_istore_n (lv' := [(1, .int (x1 + (1 : Int32))), (0, .ref h_t), (2, .int x2)]) hx hb dX11_keepers_51 rfl hl (by decide) rfl (fun ls hl => ?_)
          refine lv_iinc (v := (x2 + 1)) (lv' := [(2, .int (x2 + 1)), (1, .int (x1 + (1 : Int32))), (0, .ref h_t)]) hx hb dX11_keepers_52 hl (k := 2) rfl rfl (by decide) rfl (fun ls hl => ?_)
          refine lv_goto (tgt := 9) hx hb dX11_keepers_55 (by decide) ?_
          exact rec9 (x1 + (1 : Int32)) (x2 + 1) t_f_29 H locs ls h hP hD hS (lv_sub hl [2, 1, 0] rfl)
  exact L9 (0 : Int32) I9 m9 hB9 _ (0 : Int32) (0 : Int32) t_f H locs ls hI9 (Nat.lt_succ_self _) hP hD hS (lv_sub hl [2, 1, 0] rfl)

set_option maxHeartbeats 4000000 in
set_option maxRecDepth 100000 in
theorem c_X11_keepers (l : Launch) (G : va_G) (Y : Nat → ClassId) (tF sz : Nat) (h_t : Nat) (B_t : Nat → Nat) (t_thrown : Int32) (t_n : Int32) (t_modulus : Int32) (t_rows : Int32) (t_strands : Int32) (t_letters : Int32) (t_listedMany : Int32) (t_listN : Int32) (t_listWhat : Int32) (t_f : Nat → Int32) (t_table : Nat → Int32) {K : Int32 → Int32 → (Nat → Int32) → Prop} (h : pX11_keepers t_thrown t_n t_f t_table K) : Met l yX11_keepers wsX11_keepers ({ frames := 12, cells := 0, slots := 0, locals := 248 }) (PcM G Y tF sz (w_X11_keepers Y h_t B_t t_thrown t_n t_modulus t_rows t_strands t_letters t_listedMany t_listN t_listWhat t_f t_table) [.ref h_t]) (va_Qi (fun (r : Int32) (u : Int32 × (Nat → Int32)) => K r u.1 u.2) (fun u t => BM G Y (va_A (w_X11_keepers Y h_t B_t t_thrown t_n t_modulus t_rows t_strands t_letters t_listedMany t_listN t_listWhat t_f t_table) sz) (w_X11_keepers Y h_t B_t u.1 t_n t_modulus t_rows t_strands t_letters t_listedMany t_listN t_listWhat u.2 t_table) t) (va_A (w_X11_keepers Y h_t B_t t_thrown t_n t_modulus t_rows t_strands t_letters t_listedMany t_listN t_listWhat t_f t_table) sz)) 0 0 (va_A (w_X11_keepers Y h_t B_t t_thrown t_n t_modulus t_rows t_strands t_letters t_listedMany t_listN t_listWhat t_f t_table) sz) := by
  refine Met.ofW (cc := cX11_keepers) (maxL := 3) (ret := (some .int)) (by decide +kernel) rfl ?_
  intro p e s m args below meth c s₁ B hml hv
  obtain ⟨rfl, hsz, hP, hK, hD0, hE⟩ := hv
  have hts := atoms_spec (ws := wsX11_keepers) B.pre
  have hown : s.vm.findClass RX11 = some m.cls := findClass_of_methodNamed B.named
  have hlocks := B.notSynchronized
  subst hsz
  have hD := hD0.self (sz := s.heap.size)
  exact wk_X11_keepers h_t B_t t_thrown t_n t_modulus t_rows t_strands t_letters t_listedMany t_listN t_listWhat t_f t_table B.exec B.bytes hml hown hts hK hE (fun q h => Or.inr h) (Nat.le_refl _) (Nat.le_refl _) (fun r t_thrown t_f H locs ls pc hP hD hS hk hd => W.iret (v := r) B.exec B.bytes B.returns (fun t ht hW => ⟨⟨r, (t_thrown, t_f), rfl, hk, by rw [ht]; exact hP, va_K.moved hW.alike hK, hD⟩, hS.F ht⟩) hS.2.2 hd) hP hD h

abbrev w_X11_isMadeAhead (Y : Nat → ClassId) (h_t : Nat) (B_t : Nat → Nat) (t_thrown : Int32) (t_n : Int32) (t_modulus : Int32) (t_rows : Int32) (t_strands : Int32) (t_letters : Int32) (t_listedMany : Int32) (t_listN : Int32) (t_listWhat : Int32) (t_best : Nat → Int32) (t_made : Nat → Int32) : va_W := [(h_t, .inr (10, [.int t_thrown, .int t_n, .ref (B_t 2), .int t_modulus, .ref (B_t 4), .ref (B_t 5), .ref (B_t 6), .ref (B_t 7), .ref (B_t 8), .ref (B_t 9), .ref (B_t 10), .int t_rows, .ref (B_t 12), .ref (B_t 13), .ref (B_t 14), .ref (B_t 15), .ref (B_t 16), .ref (B_t 17), .ref (B_t 18), .ref (B_t 19), .int t_strands, .int t_letters, .ref (B_t 22), .ref (B_t 23), .ref (B_t 24), .ref (B_t 25), .int t_listedMany, .int t_listN, .int t_listWhat])), ((B_t 16), .inl (Y 0, 64, .inl t_best)), ((B_t 17), .inl (Y 0, 64, .inl t_made))]

set_option maxHeartbeats 4000000 in
set_option maxRecDepth 100000 in
theorem wk_X11_isMadeAhead {p : Program} {l : Launch} {e : Env} {R : Room} {s : State} {m : MethodId} {args : Array Value} {below : List Frame} {meth : Method} {c : Code} {Q : State → Prop} {G : va_G} {Y : Nat → ClassId} {tF : Nat} {A : Nat → Prop} (h_t : Nat) (B_t : Nat → Nat) (t_thrown : Int32) (t_n : Int32) (t_modulus : Int32) (t_rows : Int32) (t_strands : Int32) (t_letters : Int32) (t_listedMany : Int32) (t_listN : Int32) (t_listWhat : Int32) (t_best : Nat → Int32) (t_made : Nat → Int32) {K : Int32 → Prop} (hx : p.tables.exec = Jvm.exec) (hb : c.code = cX11_isMadeAhead) (hml : c.maxLocals = 4) (hown : s.vm.findClass RX11 = some m.cls) (hts : ∀ w ∈ wsX11_isMadeAhead, w.before args s = true) (hK : va_K G vwCl (tyL Y) s) (hE : Ev A tF s) (hA : ∀ q, s.heap.size ≤ q → A q) (hRf : 0 ≤ R.frames) (hRl : 0 ≤ R.locals) (hret : ∀ (r : Int32)  (H : Heap) (locs : List Loc) (ls : Array Slot) (pc : Nat), va_P G vwCl (w_X11_isMadeAhead Y h_t B_t t_thrown t_n t_modulus t_rows t_strands t_letters t_listedMany t_listN t_listWhat t_best t_made) H → va_D A (w_X11_isMadeAhead Y h_t B_t t_thrown t_n t_modulus t_rows t_strands t_letters t_listedMany t_listN t_listWhat t_best t_made) → va_S A s.heap H locs → zb r → K r → decode cX11_isMadeAhead pc = .ok (.ireturn, 1) → W p l e R s m args below meth c H locs 0 0 Q (F0 m pc ls [.int r])) (hP : va_P G vwCl (w_X11_isMadeAhead Y h_t B_t t_thrown t_n t_modulus t_rows t_strands t_letters t_listedMany t_listN t_listWhat t_best t_made) s.heap) (hD : va_D A (w_X11_isMadeAhead Y h_t B_t t_thrown t_n t_modulus t_rows t_strands t_letters t_listedMany t_listN t_listWhat t_best t_made)) (h : pX11_isMadeAhead t_n t_best t_made K) : W p l e R s m args below meth c s.heap [] 0 0 Q (entryFrame m ([.ref h_t] : List Value).toArray 4) := by
  have inX11 : ∀ w ∈ u_ws RX11 TX11 29, w ∈ wsX11_isMadeAhead := by decide +kernel
  have hf55 := hts (.fieldLink RX11 55 "RackBenchModel" "best" "[I") (by decide +kernel)
  have hf58 := hts (.fieldLink RX11 58 "RackBenchModel" "made" "[I") (by decide +kernel)
  have hf9 := hts (.fieldLink RX11 9 "RackBenchModel" "n" "I") (by decide +kernel)
  have hl := lv_entry ([.ref h_t]) (n := 4) (Nat.le_of_ble_eq_true rfl)
  rw [lg_entry_eq]
  generalize (lg_sl ([.ref h_t]) ++ List.replicate (4 - (lg_sl ([.ref h_t])).length) Slot.unset).toArray = ls at hl ⊢
  have hl : lv_has ls 4 [(0, .ref h_t)] := hl
  generalize hH0 : s.heap = H at hP ⊢
  have hS : va_S A s.heap H [] := by rw [← hH0]; exact va_S.rf
  clear hH0
  generalize ([] : List Loc) = locs at hS ⊢
  refine lv_iconst (v := 0) hx hb dX11_isMadeAhead_0 (by decide) ?_
  refine lv_istore_n (lv' := [(1, .int (0 : Int32)), (0, .ref h_t)]) hx hb dX11_isMadeAhead_1 rfl hl (by decide) rfl (fun ls hl => ?_)
  obtain ⟨I2, m2, hI2, hB2⟩ := h
  have L2 : ∀  (I2 : Int32 → Prop) (m2 : Int32 → Nat), (∀ (x1 : Int32), I2 x1 → pX11_isMadeAhead_2 t_n t_best t_made K x1 (fun x1' => I2 x1' ∧ m2 x1' < m2 x1)) → ∀ (n : Nat) (x1 : Int32) (H : Heap) (locs : List Loc) (ls : Array Slot), I2 x1 → m2 x1 < n → va_P G vwCl (w_X11_isMadeAhead Y h_t B_t t_thrown t_n t_modulus t_rows t_strands t_letters t_listedMany t_listN t_listWhat t_best t_made) H → va_D A (w_X11_isMadeAhead Y h_t B_t t_thrown t_n t_modulus t_rows t_strands t_letters t_listedMany t_listN t_listWhat t_best t_made) → va_S A s.heap H locs → lv_has ls 4 [(0, .ref h_t), (1, .int x1)] → W p l e R s m args below meth c H locs 0 0 Q (F0 m 2 ls []) := by
    intro  I2 m2 hB2 n
    induction n with
    | zero => intro x1 H locs ls _ hm; exact absurd hm (Nat.not_lt_zero _)
    | succ n ih =>
      intro x1 H locs ls hI hm hP hD hS hl
      obtain ⟨R2, h, rec2⟩ : ∃ R2 : Int32 → Prop, pX11_isMadeAhead_2 t_n t_best t_made K x1 R2 ∧ ∀ (x1 : Int32) (H : Heap) (locs : List Loc) (ls : Array Slot), R2 x1 → va_P G vwCl (w_X11_isMadeAhead Y h_t B_t t_thrown t_n t_modulus t_rows t_strands t_letters t_listedMany t_listN t_listWhat t_best t_made) H → va_D A (w_X11_isMadeAhead Y h_t B_t t_thrown t_n t_modulus t_rows t_strands t_letters t_listedMany t_listN t_listWhat t_best t_made) → va_S A s.heap H locs → lv_has ls 4 [(0, .ref h_t), (1, .int x1)] → W p l e R s m args below meth c H locs 0 0 Q (F0 m 2 ls []) := ⟨_, hB2 x1 hI, fun x1 H locs ls hh hP hD hS hl => ih x1 H locs ls hh.1 (Nat.lt_of_lt_of_le hh.2 (Nat.le_of_lt_succ hm)) hP hD hS hl⟩
      refine lv_iload_n hx hb dX11_isMadeAhead_2 rfl (lv_at hl 1 rfl) ?_
      refine lv_aload_n hx hb dX11_isMadeAhead_3 rfl (lv_at hl 0 rfl) ?_
      refine va_get (D := G) (ci := 10) (v := .int t_n) (C := RX11) (T := TX11) (N := 29) hx hb hts inX11 hown hK hP 0 rfl rfl 1 (by decide) hf9 (fun _ h9 => h9) rfl dX11_isMadeAhead_4 ?_
      obtain ⟨ht, hf⟩ := h
      refine lv_icmp_ge (tgt := 75) hx hb dX11_isMadeAhead_7 (by decide) (fun c9 => ?_) (fun c9 => ?_)
      · have h := ht c9
        refine lv_iconst (v := 0) hx hb dX11_isMadeAhead_75 (by decide) ?_
        obtain ⟨hz, h⟩ := h
        exact hret (0 : Int32)  H locs ls _ hP hD hS hz h dX11_isMadeAhead_76
      · have h := hf c9
        refine lv_iconst (v := 0) hx hb dX11_isMadeAhead_10 (by decide) ?_
        refine lv_istore_n (lv' := [(2, .int (0 : Int32)), (0, .ref h_t), (1, .int x1)]) hx hb dX11_isMadeAhead_11 rfl hl (by decide) rfl (fun ls hl => ?_)
        obtain ⟨I12, m12, hI12, hB12⟩ := h
        have L12 : ∀ (x1 : Int32) (I12 : Int32 → Prop) (m12 : Int32 → Nat), (∀ (x2 : Int32), I12 x2 → pX11_isMadeAhead_12 t_n t_best t_made R2 K x1 x2 (fun x2' => I12 x2' ∧ m12 x2' < m12 x2)) → ∀ (n : Nat) (x2 : Int32) (H : Heap) (locs : List Loc) (ls : Array Slot), I12 x2 → m12 x2 < n → va_P G vwCl (w_X11_isMadeAhead Y h_t B_t t_thrown t_n t_modulus t_rows t_strands t_letters t_listedMany t_listN t_listWhat t_best t_made) H → va_D A (w_X11_isMadeAhead Y h_t B_t t_thrown t_n t_modulus t_rows t_strands t_letters t_listedMany t_listN t_listWhat t_best t_made) → va_S A s.heap H locs → lv_has ls 4 [(0, .ref h_t), (1, .int x1), (2, .int x2)] → W p l e R s m args below meth c H locs 0 0 Q (F0 m 12 ls []) := by
          intro x1 I12 m12 hB12 n
          induction n with
          | zero => intro x2 H locs ls _ hm; exact absurd hm (Nat.not_lt_zero _)
          | succ n ih =>
            intro x2 H locs ls hI hm hP hD hS hl
            obtain ⟨R12, h, rec12⟩ : ∃ R12 : Int32 → Prop, pX11_isMadeAhead_12 t_n t_best t_made R2 K x1 x2 R12 ∧ ∀ (x2 : Int32) (H : Heap) (locs : List Loc) (ls : Array Slot), R12 x2 → va_P G vwCl (w_X11_isMadeAhead Y h_t B_t t_thrown t_n t_modulus t_rows t_strands t_letters t_listedMany t_listN t_listWhat t_best t_made) H → va_D A (w_X11_isMadeAhead Y h_t B_t t_thrown t_n t_modulus t_rows t_strands t_letters t_listedMany t_listN t_listWhat t_best t_made) → va_S A s.heap H locs → lv_has ls 4 [(0, .ref h_t), (1, .int x1), (2, .int x2)] → W p l e R s m args below meth c H locs 0 0 Q (F0 m 12 ls []) := ⟨_, hB12 x2 hI, fun x2 H locs ls hh hP hD hS hl => ih x2 H locs ls hh.1 (Nat.lt_of_lt_of_le hh.2 (Nat.le_of_lt_succ hm)) hP hD hS hl⟩
            refine lv_iload_n hx hb dX11_isMadeAhead_12 rfl (lv_at hl 2 rfl) ?_
            refine lv_aload_n hx hb dX11_isMadeAhead_13 rfl (lv_at hl 0 rfl) ?_
            refine va_get (D := G) (ci := 10) (v := .int t_n) (C := RX11) (T := TX11) (N := 29) hx hb hts inX11 hown hK hP 0 rfl rfl 1 (by decide) hf9 (fun _ h9 => h9) rfl dX11_isMadeAhead_14 ?_
            obtain ⟨ht, hf⟩ := h
            refine lv_icmp_ge (tgt := 69) hx hb dX11_isMadeAhead_17 (by decide) (fun c9 => ?_) (fun c9 => ?_)
            · have h := ht c9
              refine lv_iinc (v := (x1 + 1)) (lv' := [(1, .int (x1 + 1)), (0, .ref h_t), (2, .int x2)]) hx hb dX11_isMadeAhead_69 hl (k := 1) rfl rfl (by decide) rfl (fun ls hl => ?_)
              refine lv_goto (tgt := 2) hx hb dX11_isMadeAhead_72 (by decide) ?_
              exact rec2 (x1 + 1) H locs ls h hP hD hS (lv_sub hl [1, 0] rfl)
            · have h := hf c9
              refine lv_bipush (v := 8) hx hb dX11_isMadeAhead_20 (by decide) ?_
              refine lv_iload_n hx hb dX11_isMadeAhead_22 rfl (lv_at hl 1 rfl) ?_
              refine lv_imul hx hb dX11_isMadeAhead_23 ?_
              refine lv_iload_n hx hb dX11_isMadeAhead_24 rfl (lv_at hl 2 rfl) ?_
              refine lv_iadd hx hb dX11_isMadeAhead_25 ?_
              refine lv_istore_n (lv' := [(3, .int (((8 : Int32) * x1) + x2)), (0, .ref h_t), (1, .int x1), (2, .int x2)]) hx hb dX11_isMadeAhead_26 rfl hl (by decide) rfl (fun ls hl => ?_)
              refine lv_aload_n hx hb dX11_isMadeAhead_27 rfl (lv_at hl 1 rfl) ?_
              refine va_get (D := G) (ci := 10) (v := .ref (B_t 17)) (C := RX11) (T := TX11) (N := 29) hx hb hts inX11 hown hK hP 0 rfl rfl 17 (by decide) hf58 (fun _ h9 => h9) rfl dX11_isMadeAhead_28 ?_
              refine lv_iload_n hx hb dX11_isMadeAhead_31 rfl (lv_at hl 0 rfl) ?_
              obtain ⟨hin, h⟩ := h
              refine va_iald hx hb hK hP 2 0 rfl rfl hin dX11_isMadeAhead_32 ?_
              refine lv_aload_n hx hb dX11_isMadeAhead_33 rfl (lv_at hl 1 rfl) ?_
              refine va_get (D := G) (ci := 10) (v := .ref (B_t 16)) (C := RX11) (T := TX11) (N := 29) hx hb hts inX11 hown hK hP 0 rfl rfl 16 (by decide) hf55 (fun _ h9 => h9) rfl dX11_isMadeAhead_34 ?_
              refine lv_iload_n hx hb dX11_isMadeAhead_37 rfl (lv_at hl 0 rfl) ?_
              obtain ⟨hin, h⟩ := h
              refine va_iald hx hb hK hP 1 0 rfl rfl hin dX11_isMadeAhead_38 ?_
              obtain ⟨ht, hf⟩ := h
              refine lv_icmp_eq (tgt := 63) hx hb dX11_isMadeAhead_39 (by decide) (fun c9 => ?_) (fun c9 => ?_)
              · have h := ht c9
                refine lv_iinc (v := (x2 + 1)) (lv' := [(2, .int (x2 + 1)), (3, .int (((8 : Int32) * x1) + x2)), (0, .ref h_t), (1, .int x1)]) hx hb dX11_isMadeAhead_63 hl (k := 3) rfl rfl (by decide) rfl (fun ls hl => ?_)
                refine lv_goto (tgt := 12) hx hb dX11_isMadeAhead_66 (by decide) ?_
                exact rec12 (x2 + 1) H locs ls h hP hD hS (lv_sub hl [2, 3, 0] rfl)
              · have h := hf c9
                refine lv_aload_n hx hb dX11_isMadeAhead_42 rfl (lv_at hl 1 rfl) ?_
                refine va_get (D := G) (ci := 10) (v := .ref (B_t 17)) (C := RX11) (T := TX11) (N := 29) hx hb hts inX11 hown hK hP 0 rfl rfl 17 (by decide) hf58 (fun _ h9 => h9) rfl dX11_isMadeAhead_43 ?_
                refine lv_iload_n hx hb dX11_isMadeAhead_46 rfl (lv_at hl 0 rfl) ?_
                obtain ⟨hin, h⟩ := h
                refine va_iald hx hb hK hP 2 0 rfl rfl hin dX11_isMadeAhead_47 ?_
                refine lv_aload_n hx hb dX11_isMadeAhead_48 rfl (lv_at hl 1 rfl) ?_
                refine va_get (D := G) (ci := 10) (v := .ref (B_t 16)) (C := RX11) (T := TX11) (N := 29) hx hb hts inX11 hown hK hP 0 rfl rfl 16 (by decide) hf55 (fun _ h9 => h9) rfl dX11_isMadeAhead_49 ?_
                refine lv_iload_n hx hb dX11_isMadeAhead_52 rfl (lv_at hl 0 rfl) ?_
                obtain ⟨hin, h⟩ := h
                refine va_iald hx hb hK hP 1 0 rfl rfl hin dX11_isMadeAhead_53 ?_
                obtain ⟨ht, hf⟩ := h
                refine lv_icmp_ge (tgt := 61) hx hb dX11_isMadeAhead_54 (by decide) (fun c9 => ?_) (fun c9 => ?_)
                · have h := ht c9
                  refine lv_iconst (v := 0) hx hb dX11_isMadeAhead_61 (by decide) ?_
                  obtain ⟨hz, h⟩ := h
                  exact hret (0 : Int32)  H locs ls _ hP hD hS hz h dX11_isMadeAhead_62
                · have h := hf c9
                  refine lv_iconst (v := 1) hx hb dX11_isMadeAhead_57 (by decide) ?_
                  refine lv_goto (tgt := 62) hx hb dX11_isMadeAhead_58 (by decide) ?_
                  obtain ⟨hz, h⟩ := h
                  exact hret (1 : Int32)  H locs ls _ hP hD hS hz h dX11_isMadeAhead_62
        exact L12 x1 I12 m12 hB12 _ (0 : Int32) H locs ls hI12 (Nat.lt_succ_self _) hP hD hS (lv_sub hl [1, 2, 0] rfl)
  exact L2  I2 m2 hB2 _ (0 : Int32) H locs ls hI2 (Nat.lt_succ_self _) hP hD hS (lv_sub hl [1, 0] rfl)

set_option maxHeartbeats 4000000 in
set_option maxRecDepth 100000 in
theorem c_X11_isMadeAhead (l : Launch) (G : va_G) (Y : Nat → ClassId) (tF sz : Nat) (h_t : Nat) (B_t : Nat → Nat) (t_thrown : Int32) (t_n : Int32) (t_modulus : Int32) (t_rows : Int32) (t_strands : Int32) (t_letters : Int32) (t_listedMany : Int32) (t_listN : Int32) (t_listWhat : Int32) (t_best : Nat → Int32) (t_made : Nat → Int32) {K : Int32 → Prop} (h : pX11_isMadeAhead t_n t_best t_made K) : Met l yX11_isMadeAhead wsX11_isMadeAhead ({ frames := 0, cells := 0, slots := 0, locals := 0 }) (PcM G Y tF sz (w_X11_isMadeAhead Y h_t B_t t_thrown t_n t_modulus t_rows t_strands t_letters t_listedMany t_listN t_listWhat t_best t_made) [.ref h_t]) (va_Qi (fun (r : Int32) (u : Unit) => K r ) (fun u t => BM G Y (va_A (w_X11_isMadeAhead Y h_t B_t t_thrown t_n t_modulus t_rows t_strands t_letters t_listedMany t_listN t_listWhat t_best t_made) sz) (w_X11_isMadeAhead Y h_t B_t t_thrown t_n t_modulus t_rows t_strands t_letters t_listedMany t_listN t_listWhat t_best t_made) t) (va_A (w_X11_isMadeAhead Y h_t B_t t_thrown t_n t_modulus t_rows t_strands t_letters t_listedMany t_listN t_listWhat t_best t_made) sz)) 0 0 (va_A (w_X11_isMadeAhead Y h_t B_t t_thrown t_n t_modulus t_rows t_strands t_letters t_listedMany t_listN t_listWhat t_best t_made) sz) := by
  refine Met.ofW (cc := cX11_isMadeAhead) (maxL := 4) (ret := (some .boolean)) (by decide +kernel) rfl ?_
  intro p e s m args below meth c s₁ B hml hv
  obtain ⟨rfl, hsz, hP, hK, hD0, hE⟩ := hv
  have hts := atoms_spec (ws := wsX11_isMadeAhead) B.pre
  have hown : s.vm.findClass RX11 = some m.cls := findClass_of_methodNamed B.named
  have hlocks := B.notSynchronized
  subst hsz
  have hD := hD0.self (sz := s.heap.size)
  exact wk_X11_isMadeAhead h_t B_t t_thrown t_n t_modulus t_rows t_strands t_letters t_listedMany t_listN t_listWhat t_best t_made B.exec B.bytes hml hown hts hK hE (fun q h => Or.inr h) (Nat.le_refl _) (Nat.le_refl _) (fun r  H locs ls pc hP hD hS hz hk hd => W.zret (v := r) B.exec B.bytes B.returns hz.n (fun t ht hW => ⟨⟨r, (), rfl, hk, by rw [ht]; exact hP, va_K.moved hW.alike hK, hD⟩, hS.F ht⟩) hS.2.2 hd) hP hD h

abbrev w_X11_leastOf (Y : Nat → ClassId) (h_t : Nat) (B_t : Nat → Nat) (t_thrown : Int32) (t_n : Int32) (t_modulus : Int32) (t_rows : Int32) (t_strands : Int32) (t_letters : Int32) (t_listedMany : Int32) (t_listN : Int32) (t_listWhat : Int32) (t_best : Nat → Int32) (t_f : Nat → Int32) (t_made : Nat → Int32) (t_table : Nat → Int32) : va_W := [(h_t, .inr (10, [.int t_thrown, .int t_n, .ref (B_t 2), .int t_modulus, .ref (B_t 4), .ref (B_t 5), .ref (B_t 6), .ref (B_t 7), .ref (B_t 8), .ref (B_t 9), .ref (B_t 10), .int t_rows, .ref (B_t 12), .ref (B_t 13), .ref (B_t 14), .ref (B_t 15), .ref (B_t 16), .ref (B_t 17), .ref (B_t 18), .ref (B_t 19), .int t_strands, .int t_letters, .ref (B_t 22), .ref (B_t 23), .ref (B_t 24), .ref (B_t 25), .int t_listedMany, .int t_listN, .int t_listWhat])), ((B_t 16), .inl (Y 0, 64, .inl t_best)), ((B_t 5), .inl (Y 0, 8, .inl t_f)), ((B_t 17), .inl (Y 0, 64, .inl t_made)), ((B_t 2), .inl (Y 0, 64, .inl t_table))]

set_option maxHeartbeats 4000000 in
set_option maxRecDepth 100000 in
theorem wk_X11_leastOf {p : Program} {l : Launch} {e : Env} {R : Room} {s : State} {m : MethodId} {args : Array Value} {below : List Frame} {meth : Method} {c : Code} {Q : State → Prop} {G : va_G} {Y : Nat → ClassId} {tF : Nat} {A : Nat → Prop} (h_t : Nat) (B_t : Nat → Nat) (t_thrown : Int32) (t_n : Int32) (t_modulus : Int32) (t_rows : Int32) (t_strands : Int32) (t_letters : Int32) (t_listedMany : Int32) (t_listN : Int32) (t_listWhat : Int32) (t_best : Nat → Int32) (t_f : Nat → Int32) (t_made : Nat → Int32) (t_table : Nat → Int32) {K : (Nat → Int32) → (Nat → Int32) → (Nat → Int32) → Prop} (hx : p.tables.exec = Jvm.exec) (hb : c.code = cX11_leastOf) (hml : c.maxLocals = 4) (hown : s.vm.findClass RX11 = some m.cls) (hts : ∀ w ∈ wsX11_leastOf, w.before args s = true) (hK : va_K G vwCl (tyL Y) s) (hE : Ev A tF s) (hA : ∀ q, s.heap.size ≤ q → A q) (hRf : 12 ≤ R.frames) (hRl : 248 ≤ R.locals) (hret : ∀ (t_best : Nat → Int32) (t_f : Nat → Int32) (t_made : Nat → Int32) (H : Heap) (locs : List Loc) (ls : Array Slot) (pc : Nat), va_P G vwCl (w_X11_leastOf Y h_t B_t t_thrown t_n t_modulus t_rows t_strands t_letters t_listedMany t_listN t_listWhat t_best t_f t_made t_table) H → va_D A (w_X11_leastOf Y h_t B_t t_thrown t_n t_modulus t_rows t_strands t_letters t_listedMany t_listN t_listWhat t_best t_f t_made t_table) → va_S A s.heap H locs → K t_best t_f t_made → decode cX11_leastOf pc = .ok (.return_, 1) → W p l e R s m args below meth c H locs 0 0 Q (F0 m pc ls [])) (hP : va_P G vwCl (w_X11_leastOf Y h_t B_t t_thrown t_n t_modulus t_rows t_strands t_letters t_listedMany t_listN t_listWhat t_best t_f t_made t_table) s.heap) (hD : va_D A (w_X11_leastOf Y h_t B_t t_thrown t_n t_modulus t_rows t_strands t_letters t_listedMany t_listN t_listWhat t_best t_f t_made t_table)) (h : pX11_leastOf t_n t_best t_f t_made t_table K) : W p l e R s m args below meth c s.heap [] 0 0 Q (entryFrame m ([.ref h_t] : List Value).toArray 4) := by
  have inX11 : ∀ w ∈ u_ws RX11 TX11 29, w ∈ wsX11_leastOf := by decide +kernel
  have hf13 := hts (.fieldLink RX11 13 "RackBenchModel" "table" "[I") (by decide +kernel)
  have hf23 := hts (.fieldLink RX11 23 "RackBenchModel" "f" "[I") (by decide +kernel)
  have hf55 := hts (.fieldLink RX11 55 "RackBenchModel" "best" "[I") (by decide +kernel)
  have hf58 := hts (.fieldLink RX11 58 "RackBenchModel" "made" "[I") (by decide +kernel)
  have hf9 := hts (.fieldLink RX11 9 "RackBenchModel" "n" "I") (by decide +kernel)
  have hl := lv_entry ([.ref h_t]) (n := 4) (Nat.le_of_ble_eq_true rfl)
  rw [lg_entry_eq]
  generalize (lg_sl ([.ref h_t]) ++ List.replicate (4 - (lg_sl ([.ref h_t])).length) Slot.unset).toArray = ls at hl ⊢
  have hl : lv_has ls 4 [(0, .ref h_t)] := hl
  generalize hH0 : s.heap = H at hP ⊢
  have hS : va_S A s.heap H [] := by rw [← hH0]; exact va_S.rf
  clear hH0
  generalize ([] : List Loc) = locs at hS ⊢
  refine lv_iconst (v := 0) hx hb dX11_leastOf_0 (by decide) ?_
  refine lv_istore_n (lv' := [(1, .int (0 : Int32)), (0, .ref h_t)]) hx hb dX11_leastOf_1 rfl hl (by decide) rfl (fun ls hl => ?_)
  obtain ⟨I2, m2, hI2, hB2⟩ := h
  have L2 : ∀ (t_f : Nat → Int32) (t_made : Nat → Int32) (I2 : Int32 → (Nat → Int32) → Prop) (m2 : Int32 → (Nat → Int32) → Nat), (∀ (x1 : Int32) (t_best : Nat → Int32), I2 x1 t_best → pX11_leastOf_2 t_n t_table K t_f t_made x1 t_best (fun x1' t_best' => I2 x1' t_best' ∧ m2 x1' t_best' < m2 x1 t_best)) → ∀ (n : Nat) (x1 : Int32) (t_best : Nat → Int32) (H : Heap) (locs : List Loc) (ls : Array Slot), I2 x1 t_best → m2 x1 t_best < n → va_P G vwCl (w_X11_leastOf Y h_t B_t t_thrown t_n t_modulus t_rows t_strands t_letters t_listedMany t_listN t_listWhat t_best t_f t_made t_table) H → va_D A (w_X11_leastOf Y h_t B_t t_thrown t_n t_modulus t_rows t_strands t_letters t_listedMany t_listN t_listWhat t_best t_f t_made t_table) → va_S A s.heap H locs → lv_has ls 4 [(0, .ref h_t), (1, .int x1)] → W p l e R s m args below meth c H locs 0 0 Q (F0 m 2 ls []) := by
    intro t_f t_made I2 m2 hB2 n
    induction n with
    | zero => intro x1 t_best H locs ls _ hm; exact absurd hm (Nat.not_lt_zero _)
    | succ n ih =>
      intro x1 t_best H locs ls hI hm hP hD hS hl
      obtain ⟨R2, h, rec2⟩ : ∃ R2 : Int32 → (Nat → Int32) → Prop, pX11_leastOf_2 t_n t_table K t_f t_made x1 t_best R2 ∧ ∀ (x1 : Int32) (t_best : Nat → Int32) (H : Heap) (locs : List Loc) (ls : Array Slot), R2 x1 t_best → va_P G vwCl (w_X11_leastOf Y h_t B_t t_thrown t_n t_modulus t_rows t_strands t_letters t_listedMany t_listN t_listWhat t_best t_f t_made t_table) H → va_D A (w_X11_leastOf Y h_t B_t t_thrown t_n t_modulus t_rows t_strands t_letters t_listedMany t_listN t_listWhat t_best t_f t_made t_table) → va_S A s.heap H locs → lv_has ls 4 [(0, .ref h_t), (1, .int x1)] → W p l e R s m args below meth c H locs 0 0 Q (F0 m 2 ls []) := ⟨_, hB2 x1 t_best hI, fun x1 t_best H locs ls hh hP hD hS hl => ih x1 t_best H locs ls hh.1 (Nat.lt_of_lt_of_le hh.2 (Nat.le_of_lt_succ hm)) hP hD hS hl⟩
      refine lv_iload_n hx hb dX11_leastOf_2 rfl (lv_at hl 1 rfl) ?_
      refine lv_bipush (v := 64) hx hb dX11_leastOf_3 (by decide) ?_
      obtain ⟨ht, hf⟩ := h
      refine lv_icmp_ge (tgt := 26) hx hb dX11_leastOf_5 (by decide) (fun c9 => ?_) (fun c9 => ?_)
      · have h := ht c9
        refine lv_iconst (v := 1) hx hb dX11_leastOf_26 (by decide) ?_
        refine lv_istore_n (lv' := [(1, .int (1 : Int32)), (0, .ref h_t)]) hx hb dX11_leastOf_27 rfl hl (by decide) rfl (fun ls hl => ?_)
        obtain ⟨I28, m28, hI28, hB28⟩ := h
        have L28 : ∀  (I28 : Int32 → (Nat → Int32) → (Nat → Int32) → (Nat → Int32) → Prop) (m28 : Int32 → (Nat → Int32) → (Nat → Int32) → (Nat → Int32) → Nat), (∀ (x1 : Int32) (t_best : Nat → Int32) (t_f : Nat → Int32) (t_made : Nat → Int32), I28 x1 t_best t_f t_made → pX11_leastOf_28 t_n t_table R2 K x1 t_best t_f t_made (fun x1' t_best' t_f' t_made' => I28 x1' t_best' t_f' t_made' ∧ m28 x1' t_best' t_f' t_made' < m28 x1 t_best t_f t_made)) → ∀ (n : Nat) (x1 : Int32) (t_best : Nat → Int32) (t_f : Nat → Int32) (t_made : Nat → Int32) (H : Heap) (locs : List Loc) (ls : Array Slot), I28 x1 t_best t_f t_made → m28 x1 t_best t_f t_made < n → va_P G vwCl (w_X11_leastOf Y h_t B_t t_thrown t_n t_modulus t_rows t_strands t_letters t_listedMany t_listN t_listWhat t_best t_f t_made t_table) H → va_D A (w_X11_leastOf Y h_t B_t t_thrown t_n t_modulus t_rows t_strands t_letters t_listedMany t_listN t_listWhat t_best t_f t_made t_table) → va_S A s.heap H locs → lv_has ls 4 [(0, .ref h_t), (1, .int x1)] → W p l e R s m args below meth c H locs 0 0 Q (F0 m 28 ls []) := by
          intro  I28 m28 hB28 n
          induction n with
          | zero => intro x1 t_best t_f t_made H locs ls _ hm; exact absurd hm (Nat.not_lt_zero _)
          | succ n ih =>
            intro x1 t_best t_f t_made H locs ls hI hm hP hD hS hl
            obtain ⟨R28, h, rec28⟩ : ∃ R28 : Int32 → (Nat → Int32) → (Nat → Int32) → (Nat → Int32) → Prop, pX11_leastOf_28 t_n t_table R2 K x1 t_best t_f t_made R28 ∧ ∀ (x1 : Int32) (t_best : Nat → Int32) (t_f : Nat → Int32) (t_made : Nat → Int32) (H : Heap) (locs : List Loc) (ls : Array Slot), R28 x1 t_best t_f t_made → va_P G vwCl (w_X11_leastOf Y h_t B_t t_thrown t_n t_modulus t_rows t_strands t_letters t_listedMany t_listN t_listWhat t_best t_f t_made t_table) H → va_D A (w_X11_leastOf Y h_t B_t t_thrown t_n t_modulus t_rows t_strands t_letters t_listedMany t_listN t_listWhat t_best t_f t_made t_table) → va_S A s.heap H locs → lv_has ls 4 [(0, .ref h_t), (1, .int x1)] → W p l e R s m args below meth c H locs 0 0 Q (F0 m 28 ls []) := ⟨_, hB28 x1 t_best t_f t_made hI, fun x1 t_best t_f t_made H locs ls hh hP hD hS hl => ih x1 t_best t_f t_made H locs ls hh.1 (Nat.lt_of_lt_of_le hh.2 (Nat.le_of_lt_succ hm)) hP hD hS hl⟩
            refine lv_iload_n hx hb dX11_leastOf_28 rfl (lv_at hl 1 rfl) ?_
            refine lv_aload_n hx hb dX11_leastOf_29 rfl (lv_at hl 0 rfl) ?_
            refine va_get (D := G) (ci := 10) (v := .int t_n) (C := RX11) (T := TX11) (N := 29) hx hb hts inX11 hown hK hP 0 rfl rfl 1 (by decide) hf9 (fun _ h9 => h9) rfl dX11_leastOf_30 ?_
            refine mc_iS ⟨hx, hb, hml, hown, hts⟩ hK hE hA hP hD hS (c_X11_factorial 10 l G Y tF H.size t_n h) (va_cwS 1 hts gX11_leastOf_X11_factorial rfl rfl rfl (by decide +kernel) ⟨Nat.le_trans (by decide) hRf, Nat.le_trans (by decide) hRl⟩) (fun u => (w_X11_leastOf Y h_t B_t t_thrown t_n t_modulus t_rows t_strands t_letters t_listedMany t_listN t_listWhat t_best t_f t_made t_table)) [] [0, 1, 2, 3, 4] [0, 1, 2, 3, 4] rfl rfl rfl rfl (by decide) (fun _ => rfl) rfl rfl hl.1 rfl (Nat.le_of_ble_eq_true rfl) dX11_leastOf_33 (fun r33 u H locs h hP hD hS => ?_)
            try dsimp only at h
            have hP : va_P G vwCl (w_X11_leastOf Y h_t B_t t_thrown t_n t_modulus t_rows t_strands t_letters t_listedMany t_listN t_listWhat t_best t_f t_made t_table) H := hP
            have hD : va_D A (w_X11_leastOf Y h_t B_t t_thrown t_n t_modulus t_rows t_strands t_letters t_listedMany t_listN t_listWhat t_best t_f t_made t_table) := hD
            obtain ⟨ht, hf⟩ := h
            refine lv_icmp_ge (tgt := 154) hx hb dX11_leastOf_36 (by decide) (fun c9 => ?_) (fun c9 => ?_)
            · have h := ht c9
              exact hret t_best t_f t_made H locs ls _ hP hD hS h dX11_leastOf_154
            · have h := hf c9
              refine lv_aload_n hx hb dX11_leastOf_39 rfl (lv_at hl 0 rfl) ?_
              refine va_get (D := G) (ci := 10) (v := .int t_n) (C := RX11) (T := TX11) (N := 29) hx hb hts inX11 hown hK hP 0 rfl rfl 1 (by decide) hf9 (fun _ h9 => h9) rfl dX11_leastOf_40 ?_
              refine lv_iload_n hx hb dX11_leastOf_43 rfl (lv_at hl 1 rfl) ?_
              refine lv_aload_n hx hb dX11_leastOf_44 rfl (lv_at hl 0 rfl) ?_
              refine va_get (D := G) (ci := 10) (v := .ref (B_t 5)) (C := RX11) (T := TX11) (N := 29) hx hb hts inX11 hown hK hP 0 rfl rfl 5 (by decide) hf23 (fun _ h9 => h9) rfl dX11_leastOf_45 ?_
              refine mc_vS ⟨hx, hb, hml, hown, hts⟩ hK hE hA hP hD hS (c_X11_permutation l G Y tF H.size (B_t 5) 8 t_f t_n x1 h) (va_cwS 3 hts gX11_leastOf_X11_permutation rfl rfl rfl (by decide +kernel) ⟨Nat.le_trans (by decide) hRf, Nat.le_trans (by decide) hRl⟩) (fun u => (w_X11_leastOf Y h_t B_t t_thrown t_n t_modulus t_rows t_strands t_letters t_listedMany t_listN t_listWhat t_best u t_made t_table)) [2] [0, 1, 3, 4] [0, 1, 4, 2, 3] rfl rfl rfl rfl (by decide) (fun _ => rfl) rfl rfl hl.1 rfl (Nat.le_of_ble_eq_true rfl) dX11_leastOf_48 (fun u H locs h hP hD hS => ?_)
              obtain ⟨t_f_48, rfl⟩ : ∃ z, z = u := ⟨_, rfl⟩
              try dsimp only at h
              have hP : va_P G vwCl (w_X11_leastOf Y h_t B_t t_thrown t_n t_modulus t_rows t_strands t_letters t_listedMany t_listN t_listWhat t_best t_f_48 t_made t_table) H := hP
              have hD : va_D A (w_X11_leastOf Y h_t B_t t_thrown t_n t_modulus t_rows t_strands t_letters t_listedMany t_listN t_listWhat t_best t_f_48 t_made t_table) := hD
              refine lv_iconst (v := 0) hx hb dX11_leastOf_51 (by decide) ?_
              refine lv_istore_n (lv' := [(2, .int (0 : Int32)), (0, .ref h_t), (1, .int x1)]) hx hb dX11_leastOf_52 rfl hl (by decide) rfl (fun ls hl => ?_)
              obtain ⟨I53, m53, hI53, hB53⟩ := h
              have L53 : ∀ (x1 : Int32) (t_best : Nat → Int32) (t_f : Nat → Int32) (I53 : Int32 → (Nat → Int32) → Prop) (m53 : Int32 → (Nat → Int32) → Nat), (∀ (x2 : Int32) (t_made : Nat → Int32), I53 x2 t_made → pX11_leastOf_53 t_n t_table R28 K x1 t_best t_f x2 t_made (fun x2' t_made' => I53 x2' t_made' ∧ m53 x2' t_made' < m53 x2 t_made)) → ∀ (n : Nat) (x2 : Int32) (t_made : Nat → Int32) (H : Heap) (locs : List Loc) (ls : Array Slot), I53 x2 t_made → m53 x2 t_made < n → va_P G vwCl (w_X11_leastOf Y h_t B_t t_thrown t_n t_modulus t_rows t_strands t_letters t_listedMany t_listN t_listWhat t_best t_f t_made t_table) H → va_D A (w_X11_leastOf Y h_t B_t t_thrown t_n t_modulus t_rows t_strands t_letters t_listedMany t_listN t_listWhat t_best t_f t_made t_table) → va_S A s.heap H locs → lv_has ls 4 [(0, .ref h_t), (1, .int x1), (2, .int x2)] → W p l e R s m args below meth c H locs 0 0 Q (F0 m 53 ls []) := by
                intro x1 t_best t_f I53 m53 hB53 n
                induction n with
                | zero => intro x2 t_made H locs ls _ hm; exact absurd hm (Nat.not_lt_zero _)
                | succ n ih =>
                  intro x2 t_made H locs ls hI hm hP hD hS hl
                  obtain ⟨R53, h, rec53⟩ : ∃ R53 : Int32 → (Nat → Int32) → Prop, pX11_leastOf_53 t_n t_table R28 K x1 t_best t_f x2 t_made R53 ∧ ∀ (x2 : Int32) (t_made : Nat → Int32) (H : Heap) (locs : List Loc) (ls : Array Slot), R53 x2 t_made → va_P G vwCl (w_X11_leastOf Y h_t B_t t_thrown t_n t_modulus t_rows t_strands t_letters t_listedMany t_listN t_listWhat t_best t_f t_made t_table) H → va_D A (w_X11_leastOf Y h_t B_t t_thrown t_n t_modulus t_rows t_strands t_letters t_listedMany t_listN t_listWhat t_best t_f t_made t_table) → va_S A s.heap H locs → lv_has ls 4 [(0, .ref h_t), (1, .int x1), (2, .int x2)] → W p l e R s m args below meth c H locs 0 0 Q (F0 m 53 ls []) := ⟨_, hB53 x2 t_made hI, fun x2 t_made H locs ls hh hP hD hS hl => ih x2 t_made H locs ls hh.1 (Nat.lt_of_lt_of_le hh.2 (Nat.le_of_lt_succ hm)) hP hD hS hl⟩
                  refine lv_iload_n hx hb dX11_leastOf_53 rfl (lv_at hl 2 rfl) ?_
                  refine lv_aload_n hx hb dX11_leastOf_54 rfl (lv_at hl 0 rfl) ?_
                  refine va_get (D := G) (ci := 10) (v := .int t_n) (C := RX11) (T := TX11) (N := 29) hx hb hts inX11 hown hK hP 0 rfl rfl 1 (by decide) hf9 (fun _ h9 => h9) rfl dX11_leastOf_55 ?_
                  obtain ⟨ht, hf⟩ := h
                  refine lv_icmp_ge (tgt := 115) hx hb dX11_leastOf_58 (by decide) (fun c9 => ?_) (fun c9 => ?_)
                  · have h := ht c9
                    refine lv_aload_n hx hb dX11_leastOf_115 rfl (lv_at hl 0 rfl) ?_
                    refine mc_iV ⟨hx, hb, hml, hown, hts⟩ hK hE hA hP hD hS (c_X11_isMadeAhead l G Y tF H.size h_t B_t t_thrown t_n t_modulus t_rows t_strands t_letters t_listedMany t_listN t_listWhat t_best t_made h) (cwV 0 hts gX11_leastOf_X11_isMadeAhead rfl rfl rfl (by decide +kernel) ⟨Nat.le_trans (by decide) hRf, Nat.le_trans (by decide) hRl⟩) (fun u => (w_X11_leastOf Y h_t B_t t_thrown t_n t_modulus t_rows t_strands t_letters t_listedMany t_listN t_listWhat t_best t_f t_made t_table)) [0, 1, 3] [2, 4] [2, 3, 0, 4, 1] rfl rfl rfl rfl (by decide) (fun _ => rfl) rfl 0 10 rfl rfl rfl rfl hl.1 rfl (Nat.le_of_ble_eq_true rfl) dX11_leastOf_116 (fun r116 u H locs h hP hD hS => ?_)
                    try dsimp only at h
                    have hP : va_P G vwCl (w_X11_leastOf Y h_t B_t t_thrown t_n t_modulus t_rows t_strands t_letters t_listedMany t_listN t_listWhat t_best t_f t_made t_table) H := hP
                    have hD : va_D A (w_X11_leastOf Y h_t B_t t_thrown t_n t_modulus t_rows t_strands t_letters t_listedMany t_listN t_listWhat t_best t_f t_made t_table) := hD
                    obtain ⟨ht, hf⟩ := h
                    refine lv_if_eq (tgt := 148) hx hb dX11_leastOf_119 (by decide) (fun c9 => ?_) (fun c9 => ?_)
                    · have h := ht c9
                      refine lv_iinc (v := (x1 + 1)) (lv' := [(1, .int (x1 + 1)), (0, .ref h_t), (2, .int x2)]) hx hb dX11_leastOf_148 hl (k := 1) rfl rfl (by decide) rfl (fun ls hl => ?_)
                      refine lv_goto (tgt := 28) hx hb dX11_leastOf_151 (by decide) ?_
                      exact rec28 (x1 + 1) t_best t_f t_made H locs ls h hP hD hS (lv_sub hl [1, 0] rfl)
                    · have h := hf c9
                      refine lv_iconst (v := 0) hx hb dX11_leastOf_122 (by decide) ?_
                      refine lv_istore_n (lv' := [(2, .int (0 : Int32)), (0, .ref h_t), (1, .int x1)]) hx hb dX11_leastOf_123 rfl hl (by decide) rfl (fun ls hl => ?_)
                      obtain ⟨I124, m124, hI124, hB124⟩ := h
                      have L124 : ∀ (x1 : Int32) (t_f : Nat → Int32) (t_made : Nat → Int32) (I124 : Int32 → (Nat → Int32) → Prop) (m124 : Int32 → (Nat → Int32) → Nat), (∀ (x2 : Int32) (t_best : Nat → Int32), I124 x2 t_best → pX11_leastOf_124 t_n t_table R28 R53 K x1 t_f t_made x2 t_best (fun x2' t_best' => I124 x2' t_best' ∧ m124 x2' t_best' < m124 x2 t_best)) → ∀ (n : Nat) (x2 : Int32) (t_best : Nat → Int32) (H : Heap) (locs : List Loc) (ls : Array Slot), I124 x2 t_best → m124 x2 t_best < n → va_P G vwCl (w_X11_leastOf Y h_t B_t t_thrown t_n t_modulus t_rows t_strands t_letters t_listedMany t_listN t_listWhat t_best t_f t_made t_table) H → va_D A (w_X11_leastOf Y h_t B_t t_thrown t_n t_modulus t_rows t_strands t_letters t_listedMany t_listN t_listWhat t_best t_f t_made t_table) → va_S A s.heap H locs → lv_has ls 4 [(0, .ref h_t), (1, .int x1), (2, .int x2)] → W p l e R s m args below meth c H locs 0 0 Q (F0 m 124 ls []) := by
                        intro x1 t_f t_made I124 m124 hB124 n
                        induction n with
                        | zero => intro x2 t_best H locs ls _ hm; exact absurd hm (Nat.not_lt_zero _)
                        | succ n ih =>
                          intro x2 t_best H locs ls hI hm hP hD hS hl
                          obtain ⟨R124, h, rec124⟩ : ∃ R124 : Int32 → (Nat → Int32) → Prop, pX11_leastOf_124 t_n t_table R28 R53 K x1 t_f t_made x2 t_best R124 ∧ ∀ (x2 : Int32) (t_best : Nat → Int32) (H : Heap) (locs : List Loc) (ls : Array Slot), R124 x2 t_best → va_P G vwCl (w_X11_leastOf Y h_t B_t t_thrown t_n t_modulus t_rows t_strands t_letters t_listedMany t_listN t_listWhat t_best t_f t_made t_table) H → va_D A (w_X11_leastOf Y h_t B_t t_thrown t_n t_modulus t_rows t_strands t_letters t_listedMany t_listN t_listWhat t_best t_f t_made t_table) → va_S A s.heap H locs → lv_has ls 4 [(0, .ref h_t), (1, .int x1), (2, .int x2)] → W p l e R s m args below meth c H locs 0 0 Q (F0 m 124 ls []) := ⟨_, hB124 x2 t_best hI, fun x2 t_best H locs ls hh hP hD hS hl => ih x2 t_best H locs ls hh.1 (Nat.lt_of_lt_of_le hh.2 (Nat.le_of_lt_succ hm)) hP hD hS hl⟩
                          refine lv_iload_n hx hb dX11_leastOf_124 rfl (lv_at hl 2 rfl) ?_
                          refine lv_bipush (v := 64) hx hb dX11_leastOf_125 (by decide) ?_
                          obtain ⟨ht, hf⟩ := h
                          refine lv_icmp_ge (tgt := 148) hx hb dX11_leastOf_127 (by decide) (fun c9 => ?_) (fun c9 => ?_)
                          · have h := ht c9
                            refine lv_iinc (v := (x1 + 1)) (lv' := [(1, .int (x1 + 1)), (0, .ref h_t), (2, .int x2)]) hx hb dX11_leastOf_148 hl (k := 1) rfl rfl (by decide) rfl (fun ls hl => ?_)
                            refine lv_goto (tgt := 28) hx hb dX11_leastOf_151 (by decide) ?_
                            exact rec28 (x1 + 1) t_best t_f t_made H locs ls h hP hD hS (lv_sub hl [1, 0] rfl)
                          · have h := hf c9
                            refine lv_aload_n hx hb dX11_leastOf_130 rfl (lv_at hl 0 rfl) ?_
                            refine va_get (D := G) (ci := 10) (v := .ref (B_t 16)) (C := RX11) (T := TX11) (N := 29) hx hb hts inX11 hown hK hP 0 rfl rfl 16 (by decide) hf55 (fun _ h9 => h9) rfl dX11_leastOf_131 ?_
                            refine lv_iload_n hx hb dX11_leastOf_134 rfl (lv_at hl 2 rfl) ?_
                            refine lv_aload_n hx hb dX11_leastOf_135 rfl (lv_at hl 0 rfl) ?_
                            refine va_get (D := G) (ci := 10) (v := .ref (B_t 17)) (C := RX11) (T := TX11) (N := 29) hx hb hts inX11 hown hK hP 0 rfl rfl 17 (by decide) hf58 (fun _ h9 => h9) rfl dX11_leastOf_136 ?_
                            refine lv_iload_n hx hb dX11_leastOf_139 rfl (lv_at hl 2 rfl) ?_
                            obtain ⟨hin, h⟩ := h
                            refine va_iald hx hb hK hP 3 0 rfl rfl hin dX11_leastOf_140 ?_
                            obtain ⟨hin, h⟩ := h
                            refine va_iast hx hb hK hP hD hS 1 0 rfl rfl hin dX11_leastOf_141 (fun H locs hP hD hS => ?_)
                            have hP : va_P G vwCl (w_X11_leastOf Y h_t B_t t_thrown t_n t_modulus t_rows t_strands t_letters t_listedMany t_listN t_listWhat (upd t_best (Int32.toNatClampNeg x2) (t_made (Int32.toNatClampNeg x2))) t_f t_made t_table) H := hP
                            have hD : va_D A (w_X11_leastOf Y h_t B_t t_thrown t_n t_modulus t_rows t_strands t_letters t_listedMany t_listN t_listWhat (upd t_best (Int32.toNatClampNeg x2) (t_made (Int32.toNatClampNeg x2))) t_f t_made t_table) := hD
                            refine lv_iinc (v := (x2 + 1)) (lv' := [(2, .int (x2 + 1)), (0, .ref h_t), (1, .int x1)]) hx hb dX11_leastOf_142 hl (k := 2) rfl rfl (by decide) rfl (fun ls hl => ?_)
                            refine lv_goto (tgt := 124) hx hb dX11_leastOf_145 (by decide) ?_
                            exact rec124 (x2 + 1) (upd t_best (Int32.toNatClampNeg x2) (t_made (Int32.toNatClampNeg x2))) H locs ls h hP hD hS (lv_sub hl [1, 2, 0] rfl)
                      exact L124 x1 t_f t_made I124 m124 hB124 _ (0 : Int32) t_best H locs ls hI124 (Nat.lt_succ_self _) hP hD hS (lv_sub hl [1, 2, 0] rfl)
                  · have h := hf c9
                    refine lv_iconst (v := 0) hx hb dX11_leastOf_61 (by decide) ?_
                    refine lv_istore_n (lv' := [(3, .int (0 : Int32)), (0, .ref h_t), (1, .int x1), (2, .int x2)]) hx hb dX11_leastOf_62 rfl hl (by decide) rfl (fun ls hl => ?_)
                    obtain ⟨I63, m63, hI63, hB63⟩ := h
                    have L63 : ∀ (x2 : Int32) (I63 : Int32 → (Nat → Int32) → Prop) (m63 : Int32 → (Nat → Int32) → Nat), (∀ (x3 : Int32) (t_made : Nat → Int32), I63 x3 t_made → pX11_leastOf_63 t_n t_table R28 R53 K x1 t_best t_f x2 x3 t_made (fun x3' t_made' => I63 x3' t_made' ∧ m63 x3' t_made' < m63 x3 t_made)) → ∀ (n : Nat) (x3 : Int32) (t_made : Nat → Int32) (H : Heap) (locs : List Loc) (ls : Array Slot), I63 x3 t_made → m63 x3 t_made < n → va_P G vwCl (w_X11_leastOf Y h_t B_t t_thrown t_n t_modulus t_rows t_strands t_letters t_listedMany t_listN t_listWhat t_best t_f t_made t_table) H → va_D A (w_X11_leastOf Y h_t B_t t_thrown t_n t_modulus t_rows t_strands t_letters t_listedMany t_listN t_listWhat t_best t_f t_made t_table) → va_S A s.heap H locs → lv_has ls 4 [(0, .ref h_t), (1, .int x1), (2, .int x2), (3, .int x3)] → W p l e R s m args below meth c H locs 0 0 Q (F0 m 63 ls []) := by
                      intro x2 I63 m63 hB63 n
                      induction n with
                      | zero => intro x3 t_made H locs ls _ hm; exact absurd hm (Nat.not_lt_zero _)
                      | succ n ih =>
                        intro x3 t_made H locs ls hI hm hP hD hS hl
                        obtain ⟨R63, h, rec63⟩ : ∃ R63 : Int32 → (Nat → Int32) → Prop, pX11_leastOf_63 t_n t_table R28 R53 K x1 t_best t_f x2 x3 t_made R63 ∧ ∀ (x3 : Int32) (t_made : Nat → Int32) (H : Heap) (locs : List Loc) (ls : Array Slot), R63 x3 t_made → va_P G vwCl (w_X11_leastOf Y h_t B_t t_thrown t_n t_modulus t_rows t_strands t_letters t_listedMany t_listN t_listWhat t_best t_f t_made t_table) H → va_D A (w_X11_leastOf Y h_t B_t t_thrown t_n t_modulus t_rows t_strands t_letters t_listedMany t_listN t_listWhat t_best t_f t_made t_table) → va_S A s.heap H locs → lv_has ls 4 [(0, .ref h_t), (1, .int x1), (2, .int x2), (3, .int x3)] → W p l e R s m args below meth c H locs 0 0 Q (F0 m 63 ls []) := ⟨_, hB63 x3 t_made hI, fun x3 t_made H locs ls hh hP hD hS hl => ih x3 t_made H locs ls hh.1 (Nat.lt_of_lt_of_le hh.2 (Nat.le_of_lt_succ hm)) hP hD hS hl⟩
                        refine lv_iload_n hx hb dX11_leastOf_63 rfl (lv_at hl 3 rfl) ?_
                        refine lv_aload_n hx hb dX11_leastOf_64 rfl (lv_at hl 0 rfl) ?_
                        refine va_get (D := G) (ci := 10) (v := .int t_n) (C := RX11) (T := TX11) (N := 29) hx hb hts inX11 hown hK hP 0 rfl rfl 1 (by decide) hf9 (fun _ h9 => h9) rfl dX11_leastOf_65 ?_
                        obtain ⟨ht, hf⟩ := h
                        refine lv_icmp_ge (tgt := 109) hx hb dX11_leastOf_68 (by decide) (fun c9 => ?_) (fun c9 => ?_)
                        · have h := ht c9
                          refine lv_iinc (v := (x2 + 1)) (lv' := [(2, .int (x2 + 1)), (0, .ref h_t), (1, .int x1), (3, .int x3)]) hx hb dX11_leastOf_109 hl (k := 2) rfl rfl (by decide) rfl (fun ls hl => ?_)
                          refine lv_goto (tgt := 53) hx hb dX11_leastOf_112 (by decide) ?_
                          exact rec53 (x2 + 1) t_made H locs ls h hP hD hS (lv_sub hl [1, 2, 0] rfl)
                        · have h := hf c9
                          refine lv_aload_n hx hb dX11_leastOf_71 rfl (lv_at hl 0 rfl) ?_
                          refine va_get (D := G) (ci := 10) (v := .ref (B_t 17)) (C := RX11) (T := TX11) (N := 29) hx hb hts inX11 hown hK hP 0 rfl rfl 17 (by decide) hf58 (fun _ h9 => h9) rfl dX11_leastOf_72 ?_
                          refine lv_bipush (v := 8) hx hb dX11_leastOf_75 (by decide) ?_
                          refine lv_aload_n hx hb dX11_leastOf_77 rfl (lv_at hl 0 rfl) ?_
                          refine va_get (D := G) (ci := 10) (v := .ref (B_t 5)) (C := RX11) (T := TX11) (N := 29) hx hb hts inX11 hown hK hP 0 rfl rfl 5 (by decide) hf23 (fun _ h9 => h9) rfl dX11_leastOf_78 ?_
                          refine lv_iload_n hx hb dX11_leastOf_81 rfl (lv_at hl 2 rfl) ?_
                          obtain ⟨hin, h⟩ := h
                          refine va_iald hx hb hK hP 2 0 rfl rfl hin dX11_leastOf_82 ?_
                          refine lv_imul hx hb dX11_leastOf_83 ?_
                          refine lv_aload_n hx hb dX11_leastOf_84 rfl (lv_at hl 0 rfl) ?_
                          refine va_get (D := G) (ci := 10) (v := .ref (B_t 5)) (C := RX11) (T := TX11) (N := 29) hx hb hts inX11 hown hK hP 0 rfl rfl 5 (by decide) hf23 (fun _ h9 => h9) rfl dX11_leastOf_85 ?_
                          refine lv_iload_n hx hb dX11_leastOf_88 rfl (lv_at hl 3 rfl) ?_
                          obtain ⟨hin, h⟩ := h
                          refine va_iald hx hb hK hP 2 0 rfl rfl hin dX11_leastOf_89 ?_
                          refine lv_iadd hx hb dX11_leastOf_90 ?_
                          refine lv_aload_n hx hb dX11_leastOf_91 rfl (lv_at hl 0 rfl) ?_
                          refine va_get (D := G) (ci := 10) (v := .ref (B_t 5)) (C := RX11) (T := TX11) (N := 29) hx hb hts inX11 hown hK hP 0 rfl rfl 5 (by decide) hf23 (fun _ h9 => h9) rfl dX11_leastOf_92 ?_
                          refine lv_aload_n hx hb dX11_leastOf_95 rfl (lv_at hl 0 rfl) ?_
                          refine lv_iload_n hx hb dX11_leastOf_96 rfl (lv_at hl 2 rfl) ?_
                          refine lv_iload_n hx hb dX11_leastOf_97 rfl (lv_at hl 3 rfl) ?_
                          refine mc_iV ⟨hx, hb, hml, hown, hts⟩ hK hE hA hP hD hS (c_X11_by l G Y tF H.size h_t B_t t_thrown t_n t_modulus t_rows t_strands t_letters t_listedMany t_listN t_listWhat t_table x2 x3 h) (cwV 2 hts gX11_leastOf_X11_by rfl rfl rfl (by decide +kernel) ⟨Nat.le_trans (by decide) hRf, Nat.le_trans (by decide) hRl⟩) (fun u => (w_X11_leastOf Y h_t B_t t_thrown t_n t_modulus t_rows t_strands t_letters t_listedMany t_listN t_listWhat t_best t_f t_made t_table)) [0, 4] [1, 2, 3] [3, 0, 1, 2, 4] rfl rfl rfl rfl (by decide) (fun _ => rfl) rfl 0 10 rfl rfl rfl rfl hl.1 rfl (Nat.le_of_ble_eq_true rfl) dX11_leastOf_98 (fun r98 u H locs h hP hD hS => ?_)
                          try dsimp only at h
                          have hP : va_P G vwCl (w_X11_leastOf Y h_t B_t t_thrown t_n t_modulus t_rows t_strands t_letters t_listedMany t_listN t_listWhat t_best t_f t_made t_table) H := hP
                          have hD : va_D A (w_X11_leastOf Y h_t B_t t_thrown t_n t_modulus t_rows t_strands t_letters t_listedMany t_listN t_listWhat t_best t_f t_made t_table) := hD
                          obtain ⟨hin, h⟩ := h
                          refine va_iald hx hb hK hP 2 0 rfl rfl hin dX11_leastOf_101 ?_
                          obtain ⟨hin, h⟩ := h
                          refine va_iast hx hb hK hP hD hS 3 0 rfl rfl hin dX11_leastOf_102 (fun H locs hP hD hS => ?_)
                          have hP : va_P G vwCl (w_X11_leastOf Y h_t B_t t_thrown t_n t_modulus t_rows t_strands t_letters t_listedMany t_listN t_listWhat t_best t_f (upd t_made (Int32.toNatClampNeg (((8 : Int32) * (t_f (Int32.toNatClampNeg x2))) + (t_f (Int32.toNatClampNeg x3)))) (t_f (Int32.toNatClampNeg r98))) t_table) H := hP
                          have hD : va_D A (w_X11_leastOf Y h_t B_t t_thrown t_n t_modulus t_rows t_strands t_letters t_listedMany t_listN t_listWhat t_best t_f (upd t_made (Int32.toNatClampNeg (((8 : Int32) * (t_f (Int32.toNatClampNeg x2))) + (t_f (Int32.toNatClampNeg x3)))) (t_f (Int32.toNatClampNeg r98))) t_table) := hD
                          refine lv_iinc (v := (x3 + 1)) (lv' := [(3, .int (x3 + 1)), (0, .ref h_t), (1, .int x1), (2, .int x2)]) hx hb dX11_leastOf_103 hl (k := 3) rfl rfl (by decide) rfl (fun ls hl => ?_)
                          refine lv_goto (tgt := 63) hx hb dX11_leastOf_106 (by decide) ?_
                          exact rec63 (x3 + 1) (upd t_made (Int32.toNatClampNeg (((8 : Int32) * (t_f (Int32.toNatClampNeg x2))) + (t_f (Int32.toNatClampNeg x3)))) (t_f (Int32.toNatClampNeg r98))) H locs ls h hP hD hS (lv_sub hl [1, 2, 3, 0] rfl)
                    exact L63 x2 I63 m63 hB63 _ (0 : Int32) t_made H locs ls hI63 (Nat.lt_succ_self _) hP hD hS (lv_sub hl [1, 2, 3, 0] rfl)
              exact L53 x1 t_best t_f_48 I53 m53 hB53 _ (0 : Int32) t_made H locs ls hI53 (Nat.lt_succ_self _) hP hD hS (lv_sub hl [1, 2, 0] rfl)
        exact L28  I28 m28 hB28 _ (1 : Int32) t_best t_f t_made H locs ls hI28 (Nat.lt_succ_self _) hP hD hS (lv_sub hl [1, 0] rfl)
      · have h := hf c9
        refine lv_aload_n hx hb dX11_leastOf_8 rfl (lv_at hl 0 rfl) ?_
        refine va_get (D := G) (ci := 10) (v := .ref (B_t 16)) (C := RX11) (T := TX11) (N := 29) hx hb hts inX11 hown hK hP 0 rfl rfl 16 (by decide) hf55 (fun _ h9 => h9) rfl dX11_leastOf_9 ?_
        refine lv_iload_n hx hb dX11_leastOf_12 rfl (lv_at hl 1 rfl) ?_
        refine lv_aload_n hx hb dX11_leastOf_13 rfl (lv_at hl 0 rfl) ?_
        refine va_get (D := G) (ci := 10) (v := .ref (B_t 2)) (C := RX11) (T := TX11) (N := 29) hx hb hts inX11 hown hK hP 0 rfl rfl 2 (by decide) hf13 (fun _ h9 => h9) rfl dX11_leastOf_14 ?_
        refine lv_iload_n hx hb dX11_leastOf_17 rfl (lv_at hl 1 rfl) ?_
        obtain ⟨hin, h⟩ := h
        refine va_iald hx hb hK hP 4 0 rfl rfl hin dX11_leastOf_18 ?_
        obtain ⟨hin, h⟩ := h
        refine va_iast hx hb hK hP hD hS 1 0 rfl rfl hin dX11_leastOf_19 (fun H locs hP hD hS => ?_)
        have hP : va_P G vwCl (w_X11_leastOf Y h_t B_t t_thrown t_n t_modulus t_rows t_strands t_letters t_listedMany t_listN t_listWhat (upd t_best (Int32.toNatClampNeg x1) (t_table (Int32.toNatClampNeg x1))) t_f t_made t_table) H := hP
        have hD : va_D A (w_X11_leastOf Y h_t B_t t_thrown t_n t_modulus t_rows t_strands t_letters t_listedMany t_listN t_listWhat (upd t_best (Int32.toNatClampNeg x1) (t_table (Int32.toNatClampNeg x1))) t_f t_made t_table) := hD
        refine lv_iinc (v := (x1 + 1)) (lv' := [(1, .int (x1 + 1)), (0, .ref h_t)]) hx hb dX11_leastOf_20 hl (k := 1) rfl rfl (by decide) rfl (fun ls hl => ?_)
        refine lv_goto (tgt := 2) hx hb dX11_leastOf_23 (by decide) ?_
        exact rec2 (x1 + 1) (upd t_best (Int32.toNatClampNeg x1) (t_table (Int32.toNatClampNeg x1))) H locs ls h hP hD hS (lv_sub hl [1, 0] rfl)
  exact L2 t_f t_made I2 m2 hB2 _ (0 : Int32) t_best H locs ls hI2 (Nat.lt_succ_self _) hP hD hS (lv_sub hl [1, 0] rfl)

set_option maxHeartbeats 4000000 in
set_option maxRecDepth 100000 in
theorem c_X11_leastOf (l : Launch) (G : va_G) (Y : Nat → ClassId) (tF sz : Nat) (h_t : Nat) (B_t : Nat → Nat) (t_thrown : Int32) (t_n : Int32) (t_modulus : Int32) (t_rows : Int32) (t_strands : Int32) (t_letters : Int32) (t_listedMany : Int32) (t_listN : Int32) (t_listWhat : Int32) (t_best : Nat → Int32) (t_f : Nat → Int32) (t_made : Nat → Int32) (t_table : Nat → Int32) {K : (Nat → Int32) → (Nat → Int32) → (Nat → Int32) → Prop} (h : pX11_leastOf t_n t_best t_f t_made t_table K) : Met l yX11_leastOf wsX11_leastOf ({ frames := 12, cells := 0, slots := 0, locals := 248 }) (PcM G Y tF sz (w_X11_leastOf Y h_t B_t t_thrown t_n t_modulus t_rows t_strands t_letters t_listedMany t_listN t_listWhat t_best t_f t_made t_table) [.ref h_t]) (va_Qv (fun u : (Nat → Int32) × (Nat → Int32) × (Nat → Int32) => K u.1 u.2.1 u.2.2) (fun u t => BM G Y (va_A (w_X11_leastOf Y h_t B_t t_thrown t_n t_modulus t_rows t_strands t_letters t_listedMany t_listN t_listWhat t_best t_f t_made t_table) sz) (w_X11_leastOf Y h_t B_t t_thrown t_n t_modulus t_rows t_strands t_letters t_listedMany t_listN t_listWhat u.1 u.2.1 u.2.2 t_table) t) (va_A (w_X11_leastOf Y h_t B_t t_thrown t_n t_modulus t_rows t_strands t_letters t_listedMany t_listN t_listWhat t_best t_f t_made t_table) sz)) 0 0 (va_A (w_X11_leastOf Y h_t B_t t_thrown t_n t_modulus t_rows t_strands t_letters t_listedMany t_listN t_listWhat t_best t_f t_made t_table) sz) := by
  refine Met.ofW (cc := cX11_leastOf) (maxL := 4) (ret := none) (by decide +kernel) rfl ?_
  intro p e s m args below meth c s₁ B hml hv
  obtain ⟨rfl, hsz, hP, hK, hD0, hE⟩ := hv
  have hts := atoms_spec (ws := wsX11_leastOf) B.pre
  have hown : s.vm.findClass RX11 = some m.cls := findClass_of_methodNamed B.named
  have hlocks := B.notSynchronized
  subst hsz
  have hD := hD0.self (sz := s.heap.size)
  exact wk_X11_leastOf h_t B_t t_thrown t_n t_modulus t_rows t_strands t_letters t_listedMany t_listN t_listWhat t_best t_f t_made t_table B.exec B.bytes hml hown hts hK hE (fun q h => Or.inr h) (Nat.le_refl _) (Nat.le_refl _) (fun t_best t_f t_made H locs ls pc hP hD hS hk hd => W.vret B.exec B.bytes B.returns (fun t ht hW => ⟨⟨(t_best, t_f, t_made), rfl, hk, by rw [ht]; exact hP, va_K.moved hW.alike hK, hD⟩, hS.F ht⟩) hS.2.2 hd) hP hD h

abbrev w_X11_isBest (Y : Nat → ClassId) (h_t : Nat) (B_t : Nat → Nat) (t_thrown : Int32) (t_n : Int32) (t_modulus : Int32) (t_rows : Int32) (t_strands : Int32) (t_letters : Int32) (t_listedMany : Int32) (t_listN : Int32) (t_listWhat : Int32) (t_best : Nat → Int32) (t_table : Nat → Int32) : va_W := [(h_t, .inr (10, [.int t_thrown, .int t_n, .ref (B_t 2), .int t_modulus, .ref (B_t 4), .ref (B_t 5), .ref (B_t 6), .ref (B_t 7), .ref (B_t 8), .ref (B_t 9), .ref (B_t 10), .int t_rows, .ref (B_t 12), .ref (B_t 13), .ref (B_t 14), .ref (B_t 15), .ref (B_t 16), .ref (B_t 17), .ref (B_t 18), .ref (B_t 19), .int t_strands, .int t_letters, .ref (B_t 22), .ref (B_t 23), .ref (B_t 24), .ref (B_t 25), .int t_listedMany, .int t_listN, .int t_listWhat])), ((B_t 16), .inl (Y 0, 64, .inl t_best)), ((B_t 2), .inl (Y 0, 64, .inl t_table))]

set_option maxHeartbeats 4000000 in
set_option maxRecDepth 100000 in
theorem wk_X11_isBest {p : Program} {l : Launch} {e : Env} {R : Room} {s : State} {m : MethodId} {args : Array Value} {below : List Frame} {meth : Method} {c : Code} {Q : State → Prop} {G : va_G} {Y : Nat → ClassId} {tF : Nat} {A : Nat → Prop} (h_t : Nat) (B_t : Nat → Nat) (t_thrown : Int32) (t_n : Int32) (t_modulus : Int32) (t_rows : Int32) (t_strands : Int32) (t_letters : Int32) (t_listedMany : Int32) (t_listN : Int32) (t_listWhat : Int32) (t_best : Nat → Int32) (t_table : Nat → Int32) {K : Int32 → Prop} (hx : p.tables.exec = Jvm.exec) (hb : c.code = cX11_isBest) (hml : c.maxLocals = 4) (hown : s.vm.findClass RX11 = some m.cls) (hts : ∀ w ∈ wsX11_isBest, w.before args s = true) (hK : va_K G vwCl (tyL Y) s) (hE : Ev A tF s) (hA : ∀ q, s.heap.size ≤ q → A q) (hRf : 1 ≤ R.frames) (hRl : 22 ≤ R.locals) (hret : ∀ (r : Int32)  (H : Heap) (locs : List Loc) (ls : Array Slot) (pc : Nat), va_P G vwCl (w_X11_isBest Y h_t B_t t_thrown t_n t_modulus t_rows t_strands t_letters t_listedMany t_listN t_listWhat t_best t_table) H → va_D A (w_X11_isBest Y h_t B_t t_thrown t_n t_modulus t_rows t_strands t_letters t_listedMany t_listN t_listWhat t_best t_table) → va_S A s.heap H locs → zb r → K r → decode cX11_isBest pc = .ok (.ireturn, 1) → W p l e R s m args below meth c H locs 0 0 Q (F0 m pc ls [.int r])) (hP : va_P G vwCl (w_X11_isBest Y h_t B_t t_thrown t_n t_modulus t_rows t_strands t_letters t_listedMany t_listN t_listWhat t_best t_table) s.heap) (hD : va_D A (w_X11_isBest Y h_t B_t t_thrown t_n t_modulus t_rows t_strands t_letters t_listedMany t_listN t_listWhat t_best t_table)) (h : pX11_isBest t_n t_best t_table K) : W p l e R s m args below meth c s.heap [] 0 0 Q (entryFrame m ([.ref h_t] : List Value).toArray 4) := by
  have inX11 : ∀ w ∈ u_ws RX11 TX11 29, w ∈ wsX11_isBest := by decide +kernel
  have hf55 := hts (.fieldLink RX11 55 "RackBenchModel" "best" "[I") (by decide +kernel)
  have hf9 := hts (.fieldLink RX11 9 "RackBenchModel" "n" "I") (by decide +kernel)
  have hl := lv_entry ([.ref h_t]) (n := 4) (Nat.le_of_ble_eq_true rfl)
  rw [lg_entry_eq]
  generalize (lg_sl ([.ref h_t]) ++ List.replicate (4 - (lg_sl ([.ref h_t])).length) Slot.unset).toArray = ls at hl ⊢
  have hl : lv_has ls 4 [(0, .ref h_t)] := hl
  generalize hH0 : s.heap = H at hP ⊢
  have hS : va_S A s.heap H [] := by rw [← hH0]; exact va_S.rf
  clear hH0
  generalize ([] : List Loc) = locs at hS ⊢
  refine lv_iconst (v := 1) hx hb dX11_isBest_0 (by decide) ?_
  refine lv_istore_n (lv' := [(1, .int (1 : Int32)), (0, .ref h_t)]) hx hb dX11_isBest_1 rfl hl (by decide) rfl (fun ls hl => ?_)
  refine lv_iconst (v := 0) hx hb dX11_isBest_2 (by decide) ?_
  refine lv_istore_n (lv' := [(2, .int (0 : Int32)), (1, .int (1 : Int32)), (0, .ref h_t)]) hx hb dX11_isBest_3 rfl hl (by decide) rfl (fun ls hl => ?_)
  obtain ⟨I4, m4, hI4, hB4⟩ := h
  have L4 : ∀  (I4 : Int32 → Int32 → Prop) (m4 : Int32 → Int32 → Nat), (∀ (x1 : Int32) (x2 : Int32), I4 x1 x2 → pX11_isBest_4 t_n t_best t_table K x1 x2 (fun x1' x2' => I4 x1' x2' ∧ m4 x1' x2' < m4 x1 x2)) → ∀ (n : Nat) (x1 : Int32) (x2 : Int32) (H : Heap) (locs : List Loc) (ls : Array Slot), I4 x1 x2 → m4 x1 x2 < n → va_P G vwCl (w_X11_isBest Y h_t B_t t_thrown t_n t_modulus t_rows t_strands t_letters t_listedMany t_listN t_listWhat t_best t_table) H → va_D A (w_X11_isBest Y h_t B_t t_thrown t_n t_modulus t_rows t_strands t_letters t_listedMany t_listN t_listWhat t_best t_table) → va_S A s.heap H locs → lv_has ls 4 [(0, .ref h_t), (1, .int x1), (2, .int x2)] → W p l e R s m args below meth c H locs 0 0 Q (F0 m 4 ls []) := by
    intro  I4 m4 hB4 n
    induction n with
    | zero => intro x1 x2 H locs ls _ hm; exact absurd hm (Nat.not_lt_zero _)
    | succ n ih =>
      intro x1 x2 H locs ls hI hm hP hD hS hl
      obtain ⟨R4, h, rec4⟩ : ∃ R4 : Int32 → Int32 → Prop, pX11_isBest_4 t_n t_best t_table K x1 x2 R4 ∧ ∀ (x1 : Int32) (x2 : Int32) (H : Heap) (locs : List Loc) (ls : Array Slot), R4 x1 x2 → va_P G vwCl (w_X11_isBest Y h_t B_t t_thrown t_n t_modulus t_rows t_strands t_letters t_listedMany t_listN t_listWhat t_best t_table) H → va_D A (w_X11_isBest Y h_t B_t t_thrown t_n t_modulus t_rows t_strands t_letters t_listedMany t_listN t_listWhat t_best t_table) → va_S A s.heap H locs → lv_has ls 4 [(0, .ref h_t), (1, .int x1), (2, .int x2)] → W p l e R s m args below meth c H locs 0 0 Q (F0 m 4 ls []) := ⟨_, hB4 x1 x2 hI, fun x1 x2 H locs ls hh hP hD hS hl => ih x1 x2 H locs ls hh.1 (Nat.lt_of_lt_of_le hh.2 (Nat.le_of_lt_succ hm)) hP hD hS hl⟩
      refine lv_iload_n hx hb dX11_isBest_4 rfl (lv_at hl 2 rfl) ?_
      refine lv_aload_n hx hb dX11_isBest_5 rfl (lv_at hl 0 rfl) ?_
      refine va_get (D := G) (ci := 10) (v := .int t_n) (C := RX11) (T := TX11) (N := 29) hx hb hts inX11 hown hK hP 0 rfl rfl 1 (by decide) hf9 (fun _ h9 => h9) rfl dX11_isBest_6 ?_
      obtain ⟨ht, hf⟩ := h
      refine lv_icmp_ge (tgt := 64) hx hb dX11_isBest_9 (by decide) (fun c9 => ?_) (fun c9 => ?_)
      · have h := ht c9
        refine lv_iload_n hx hb dX11_isBest_64 rfl (lv_at hl 1 rfl) ?_
        obtain ⟨hz, h⟩ := h
        exact hret x1  H locs ls _ hP hD hS hz h dX11_isBest_65
      · have h := hf c9
        refine lv_iconst (v := 0) hx hb dX11_isBest_12 (by decide) ?_
        refine lv_istore_n (lv' := [(3, .int (0 : Int32)), (0, .ref h_t), (1, .int x1), (2, .int x2)]) hx hb dX11_isBest_13 rfl hl (by decide) rfl (fun ls hl => ?_)
        obtain ⟨I14, m14, hI14, hB14⟩ := h
        have L14 : ∀ (x2 : Int32) (I14 : Int32 → Int32 → Prop) (m14 : Int32 → Int32 → Nat), (∀ (x1 : Int32) (x3 : Int32), I14 x1 x3 → pX11_isBest_14 t_n t_best t_table R4 K x2 x1 x3 (fun x1' x3' => I14 x1' x3' ∧ m14 x1' x3' < m14 x1 x3)) → ∀ (n : Nat) (x1 : Int32) (x3 : Int32) (H : Heap) (locs : List Loc) (ls : Array Slot), I14 x1 x3 → m14 x1 x3 < n → va_P G vwCl (w_X11_isBest Y h_t B_t t_thrown t_n t_modulus t_rows t_strands t_letters t_listedMany t_listN t_listWhat t_best t_table) H → va_D A (w_X11_isBest Y h_t B_t t_thrown t_n t_modulus t_rows t_strands t_letters t_listedMany t_listN t_listWhat t_best t_table) → va_S A s.heap H locs → lv_has ls 4 [(0, .ref h_t), (1, .int x1), (2, .int x2), (3, .int x3)] → W p l e R s m args below meth c H locs 0 0 Q (F0 m 14 ls []) := by
          intro x2 I14 m14 hB14 n
          induction n with
          | zero => intro x1 x3 H locs ls _ hm; exact absurd hm (Nat.not_lt_zero _)
          | succ n ih =>
            intro x1 x3 H locs ls hI hm hP hD hS hl
            obtain ⟨R14, h, rec14⟩ : ∃ R14 : Int32 → Int32 → Prop, pX11_isBest_14 t_n t_best t_table R4 K x2 x1 x3 R14 ∧ ∀ (x1 : Int32) (x3 : Int32) (H : Heap) (locs : List Loc) (ls : Array Slot), R14 x1 x3 → va_P G vwCl (w_X11_isBest Y h_t B_t t_thrown t_n t_modulus t_rows t_strands t_letters t_listedMany t_listN t_listWhat t_best t_table) H → va_D A (w_X11_isBest Y h_t B_t t_thrown t_n t_modulus t_rows t_strands t_letters t_listedMany t_listN t_listWhat t_best t_table) → va_S A s.heap H locs → lv_has ls 4 [(0, .ref h_t), (1, .int x1), (2, .int x2), (3, .int x3)] → W p l e R s m args below meth c H locs 0 0 Q (F0 m 14 ls []) := ⟨_, hB14 x1 x3 hI, fun x1 x3 H locs ls hh hP hD hS hl => ih x1 x3 H locs ls hh.1 (Nat.lt_of_lt_of_le hh.2 (Nat.le_of_lt_succ hm)) hP hD hS hl⟩
            have J50 : ∀ (x3 : Int32) (H : Heap) (locs : List Loc) (ls : Array Slot), pX11_isBest_50 t_n t_best t_table R4 R14 K x2 x3 → va_P G vwCl (w_X11_isBest Y h_t B_t t_thrown t_n t_modulus t_rows t_strands t_letters t_listedMany t_listN t_listWhat t_best t_table) H → va_D A (w_X11_isBest Y h_t B_t t_thrown t_n t_modulus t_rows t_strands t_letters t_listedMany t_listN t_listWhat t_best t_table) → va_S A s.heap H locs → lv_has ls 4 [(0, .ref h_t), (2, .int x2), (3, .int x3)] → W p l e R s m args below meth c H locs 0 0 Q (F0 m 50 ls []) := by
              intro x3 H locs ls h hP hD hS hl
              refine lv_iconst (v := 0) hx hb dX11_isBest_50 (by decide) ?_
              refine lv_istore_n (lv' := [(1, .int (0 : Int32)), (0, .ref h_t), (2, .int x2), (3, .int x3)]) hx hb dX11_isBest_51 rfl hl (by decide) rfl (fun ls hl => ?_)
              refine lv_iinc (v := (x3 + 1)) (lv' := [(3, .int (x3 + 1)), (1, .int (0 : Int32)), (0, .ref h_t), (2, .int x2)]) hx hb dX11_isBest_52 hl (k := 3) rfl rfl (by decide) rfl (fun ls hl => ?_)
              refine lv_goto (tgt := 14) hx hb dX11_isBest_55 (by decide) ?_
              exact rec14 (0 : Int32) (x3 + 1) H locs ls h hP hD hS (lv_sub hl [2, 1, 3, 0] rfl)
            refine lv_iload_n hx hb dX11_isBest_14 rfl (lv_at hl 3 rfl) ?_
            refine lv_aload_n hx hb dX11_isBest_15 rfl (lv_at hl 0 rfl) ?_
            refine va_get (D := G) (ci := 10) (v := .int t_n) (C := RX11) (T := TX11) (N := 29) hx hb hts inX11 hown hK hP 0 rfl rfl 1 (by decide) hf9 (fun _ h9 => h9) rfl dX11_isBest_16 ?_
            obtain ⟨ht, hf⟩ := h
            refine lv_icmp_ge (tgt := 58) hx hb dX11_isBest_19 (by decide) (fun c9 => ?_) (fun c9 => ?_)
            · have h := ht c9
              refine lv_iinc (v := (x2 + 1)) (lv' := [(2, .int (x2 + 1)), (0, .ref h_t), (1, .int x1), (3, .int x3)]) hx hb dX11_isBest_58 hl (k := 2) rfl rfl (by decide) rfl (fun ls hl => ?_)
              refine lv_goto (tgt := 4) hx hb dX11_isBest_61 (by decide) ?_
              exact rec4 x1 (x2 + 1) H locs ls h hP hD hS (lv_sub hl [1, 2, 0] rfl)
            · have h := hf c9
              refine lv_iload_n hx hb dX11_isBest_22 rfl (lv_at hl 1 rfl) ?_
              obtain ⟨ht, hf⟩ := h
              refine lv_if_eq (tgt := 50) hx hb dX11_isBest_23 (by decide) (fun c9 => ?_) (fun c9 => ?_)
              · have h := ht c9
                exact J50 x3 H locs ls h hP hD hS (lv_sub hl [0, 2, 3] rfl)
              · have h := hf c9
                refine lv_aload_n hx hb dX11_isBest_26 rfl (lv_at hl 0 rfl) ?_
                refine va_get (D := G) (ci := 10) (v := .ref (B_t 16)) (C := RX11) (T := TX11) (N := 29) hx hb hts inX11 hown hK hP 0 rfl rfl 16 (by decide) hf55 (fun _ h9 => h9) rfl dX11_isBest_27 ?_
                refine lv_bipush (v := 8) hx hb dX11_isBest_30 (by decide) ?_
                refine lv_iload_n hx hb dX11_isBest_32 rfl (lv_at hl 2 rfl) ?_
                refine lv_imul hx hb dX11_isBest_33 ?_
                refine lv_iload_n hx hb dX11_isBest_34 rfl (lv_at hl 3 rfl) ?_
                refine lv_iadd hx hb dX11_isBest_35 ?_
                obtain ⟨hin, h⟩ := h
                refine va_iald hx hb hK hP 1 0 rfl rfl hin dX11_isBest_36 ?_
                refine lv_aload_n hx hb dX11_isBest_37 rfl (lv_at hl 0 rfl) ?_
                refine lv_iload_n hx hb dX11_isBest_38 rfl (lv_at hl 2 rfl) ?_
                refine lv_iload_n hx hb dX11_isBest_39 rfl (lv_at hl 3 rfl) ?_
                refine mc_iV ⟨hx, hb, hml, hown, hts⟩ hK hE hA hP hD hS (c_X11_by l G Y tF H.size h_t B_t t_thrown t_n t_modulus t_rows t_strands t_letters t_listedMany t_listN t_listWhat t_table x2 x3 h) (cwV 2 hts gX11_isBest_X11_by rfl rfl rfl (by decide +kernel) ⟨Nat.le_trans (by decide) hRf, Nat.le_trans (by decide) hRl⟩) (fun u => (w_X11_isBest Y h_t B_t t_thrown t_n t_modulus t_rows t_strands t_letters t_listedMany t_listN t_listWhat t_best t_table)) [0, 2] [1] [1, 0, 2] rfl rfl rfl rfl (by decide) (fun _ => rfl) rfl 0 10 rfl rfl rfl rfl hl.1 rfl (Nat.le_of_ble_eq_true rfl) dX11_isBest_40 (fun r40 u H locs h hP hD hS => ?_)
                try dsimp only at h
                have hP : va_P G vwCl (w_X11_isBest Y h_t B_t t_thrown t_n t_modulus t_rows t_strands t_letters t_listedMany t_listN t_listWhat t_best t_table) H := hP
                have hD : va_D A (w_X11_isBest Y h_t B_t t_thrown t_n t_modulus t_rows t_strands t_letters t_listedMany t_listN t_listWhat t_best t_table) := hD
                obtain ⟨ht, hf⟩ := h
                refine lv_icmp_ne (tgt := 50) hx hb dX11_isBest_43 (by decide) (fun c9 => ?_) (fun c9 => ?_)
                · have h := ht c9
                  exact J50 x3 H locs ls h hP hD hS (lv_sub hl [0, 2, 3] rfl)
                · have h := hf c9
                  refine lv_iconst (v := 1) hx hb dX11_isBest_46 (by decide) ?_
                  refine lv_goto (tgt := 51) hx hb dX11_isBest_47 (by decide) ?_
                  refine lv_istore_n (lv' := [(1, .int (1 : Int32)), (0, .ref h_t), (2, .int x2), (3, .int x3)]) hx hb dX11_isBest_51 rfl hl (by decide) rfl (fun ls hl => ?_)
                  refine lv_iinc (v := (x3 + 1)) (lv' := [(3, .int (x3 + 1)), (1, .int (1 : Int32)), (0, .ref h_t), (2, .int x2)]) hx hb dX11_isBest_52 hl (k := 3) rfl rfl (by decide) rfl (fun ls hl => ?_)
                  refine lv_goto (tgt := 14) hx hb dX11_isBest_55 (by decide) ?_
                  exact rec14 (1 : Int32) (x3 + 1) H locs ls h hP hD hS (lv_sub hl [2, 1, 3, 0] rfl)
        exact L14 x2 I14 m14 hB14 _ x1 (0 : Int32) H locs ls hI14 (Nat.lt_succ_self _) hP hD hS (lv_sub hl [1, 2, 3, 0] rfl)
  exact L4  I4 m4 hB4 _ (1 : Int32) (0 : Int32) H locs ls hI4 (Nat.lt_succ_self _) hP hD hS (lv_sub hl [2, 1, 0] rfl)

set_option maxHeartbeats 4000000 in
set_option maxRecDepth 100000 in
theorem c_X11_isBest (l : Launch) (G : va_G) (Y : Nat → ClassId) (tF sz : Nat) (h_t : Nat) (B_t : Nat → Nat) (t_thrown : Int32) (t_n : Int32) (t_modulus : Int32) (t_rows : Int32) (t_strands : Int32) (t_letters : Int32) (t_listedMany : Int32) (t_listN : Int32) (t_listWhat : Int32) (t_best : Nat → Int32) (t_table : Nat → Int32) {K : Int32 → Prop} (h : pX11_isBest t_n t_best t_table K) : Met l yX11_isBest wsX11_isBest ({ frames := 1, cells := 0, slots := 0, locals := 22 }) (PcM G Y tF sz (w_X11_isBest Y h_t B_t t_thrown t_n t_modulus t_rows t_strands t_letters t_listedMany t_listN t_listWhat t_best t_table) [.ref h_t]) (va_Qi (fun (r : Int32) (u : Unit) => K r ) (fun u t => BM G Y (va_A (w_X11_isBest Y h_t B_t t_thrown t_n t_modulus t_rows t_strands t_letters t_listedMany t_listN t_listWhat t_best t_table) sz) (w_X11_isBest Y h_t B_t t_thrown t_n t_modulus t_rows t_strands t_letters t_listedMany t_listN t_listWhat t_best t_table) t) (va_A (w_X11_isBest Y h_t B_t t_thrown t_n t_modulus t_rows t_strands t_letters t_listedMany t_listN t_listWhat t_best t_table) sz)) 0 0 (va_A (w_X11_isBest Y h_t B_t t_thrown t_n t_modulus t_rows t_strands t_letters t_listedMany t_listN t_listWhat t_best t_table) sz) := by
  refine Met.ofW (cc := cX11_isBest) (maxL := 4) (ret := (some .boolean)) (by decide +kernel) rfl ?_
  intro p e s m args below meth c s₁ B hml hv
  obtain ⟨rfl, hsz, hP, hK, hD0, hE⟩ := hv
  have hts := atoms_spec (ws := wsX11_isBest) B.pre
  have hown : s.vm.findClass RX11 = some m.cls := findClass_of_methodNamed B.named
  have hlocks := B.notSynchronized
  subst hsz
  have hD := hD0.self (sz := s.heap.size)
  exact wk_X11_isBest h_t B_t t_thrown t_n t_modulus t_rows t_strands t_letters t_listedMany t_listN t_listWhat t_best t_table B.exec B.bytes hml hown hts hK hE (fun q h => Or.inr h) (Nat.le_refl _) (Nat.le_refl _) (fun r  H locs ls pc hP hD hS hz hk hd => W.zret (v := r) B.exec B.bytes B.returns hz.n (fun t ht hW => ⟨⟨r, (), rfl, hk, by rw [ht]; exact hP, va_K.moved hW.alike hK, hD⟩, hS.F ht⟩) hS.2.2 hd) hP hD h

abbrev w_X11_least (Y : Nat → ClassId) (h_t : Nat) (B_t : Nat → Nat) (t_thrown : Int32) (t_n : Int32) (t_modulus : Int32) (t_rows : Int32) (t_strands : Int32) (t_letters : Int32) (t_listedMany : Int32) (t_listN : Int32) (t_listWhat : Int32) (t_best : Nat → Int32) (t_f : Nat → Int32) (t_made : Nat → Int32) (t_table : Nat → Int32) (t_twists : Nat → Int32) : va_W := [(h_t, .inr (10, [.int t_thrown, .int t_n, .ref (B_t 2), .int t_modulus, .ref (B_t 4), .ref (B_t 5), .ref (B_t 6), .ref (B_t 7), .ref (B_t 8), .ref (B_t 9), .ref (B_t 10), .int t_rows, .ref (B_t 12), .ref (B_t 13), .ref (B_t 14), .ref (B_t 15), .ref (B_t 16), .ref (B_t 17), .ref (B_t 18), .ref (B_t 19), .int t_strands, .int t_letters, .ref (B_t 22), .ref (B_t 23), .ref (B_t 24), .ref (B_t 25), .int t_listedMany, .int t_listN, .int t_listWhat])), ((B_t 16), .inl (Y 0, 64, .inl t_best)), ((B_t 5), .inl (Y 0, 8, .inl t_f)), ((B_t 17), .inl (Y 0, 64, .inl t_made)), ((B_t 2), .inl (Y 0, 64, .inl t_table)), ((B_t 4), .inl (Y 0, 64, .inl t_twists))]

set_option maxHeartbeats 4000000 in
set_option maxRecDepth 100000 in
theorem wk_X11_least {p : Program} {l : Launch} {e : Env} {R : Room} {s : State} {m : MethodId} {args : Array Value} {below : List Frame} {meth : Method} {c : Code} {Q : State → Prop} {G : va_G} {Y : Nat → ClassId} {tF : Nat} {A : Nat → Prop} (h_t : Nat) (B_t : Nat → Nat) (t_thrown : Int32) (t_n : Int32) (t_modulus : Int32) (t_rows : Int32) (t_strands : Int32) (t_letters : Int32) (t_listedMany : Int32) (t_listN : Int32) (t_listWhat : Int32) (t_best : Nat → Int32) (t_f : Nat → Int32) (t_made : Nat → Int32) (t_table : Nat → Int32) (t_twists : Nat → Int32) {K : Int32 → Int32 → (Nat → Int32) → (Nat → Int32) → (Nat → Int32) → (Nat → Int32) → (Nat → Int32) → Prop} (hx : p.tables.exec = Jvm.exec) (hb : c.code = cX11_least) (hml : c.maxLocals = 2) (hown : s.vm.findClass RX11 = some m.cls) (hts : ∀ w ∈ wsX11_least, w.before args s = true) (hK : va_K G vwCl (tyL Y) s) (hE : Ev A tF s) (hA : ∀ q, s.heap.size ≤ q → A q) (hRf : 13 ≤ R.frames) (hRl : 271 ≤ R.locals) (hret : ∀ (r : Int32) (t_thrown : Int32) (t_best : Nat → Int32) (t_f : Nat → Int32) (t_made : Nat → Int32) (t_table : Nat → Int32) (t_twists : Nat → Int32) (H : Heap) (locs : List Loc) (ls : Array Slot) (pc : Nat), va_P G vwCl (w_X11_least Y h_t B_t t_thrown t_n t_modulus t_rows t_strands t_letters t_listedMany t_listN t_listWhat t_best t_f t_made t_table t_twists) H → va_D A (w_X11_least Y h_t B_t t_thrown t_n t_modulus t_rows t_strands t_letters t_listedMany t_listN t_listWhat t_best t_f t_made t_table t_twists) → va_S A s.heap H locs → zb r → K r t_thrown t_best t_f t_made t_table t_twists → decode cX11_least pc = .ok (.ireturn, 1) → W p l e R s m args below meth c H locs 0 0 Q (F0 m pc ls [.int r])) (hP : va_P G vwCl (w_X11_least Y h_t B_t t_thrown t_n t_modulus t_rows t_strands t_letters t_listedMany t_listN t_listWhat t_best t_f t_made t_table t_twists) s.heap) (hD : va_D A (w_X11_least Y h_t B_t t_thrown t_n t_modulus t_rows t_strands t_letters t_listedMany t_listN t_listWhat t_best t_f t_made t_table t_twists)) (h : pX11_least t_thrown t_n t_best t_f t_made t_table t_twists K) : W p l e R s m args below meth c s.heap [] 0 0 Q (entryFrame m ([.ref h_t] : List Value).toArray 2) := by
  have inX11 : ∀ w ∈ u_ws RX11 TX11 29, w ∈ wsX11_least := by decide +kernel
  have hf13 := hts (.fieldLink RX11 13 "RackBenchModel" "table" "[I") (by decide +kernel)
  have hf55 := hts (.fieldLink RX11 55 "RackBenchModel" "best" "[I") (by decide +kernel)
  have hf83 := hts (.fieldLink RX11 83 "RackBenchModel" "thrown" "I") (by decide +kernel)
  have hl := lv_entry ([.ref h_t]) (n := 2) (Nat.le_of_ble_eq_true rfl)
  rw [lg_entry_eq]
  generalize (lg_sl ([.ref h_t]) ++ List.replicate (2 - (lg_sl ([.ref h_t])).length) Slot.unset).toArray = ls at hl ⊢
  have hl : lv_has ls 2 [(0, .ref h_t)] := hl
  generalize hH0 : s.heap = H at hP ⊢
  have hS : va_S A s.heap H [] := by rw [← hH0]; exact va_S.rf
  clear hH0
  generalize ([] : List Loc) = locs at hS ⊢
  refine lv_aload_n hx hb dX11_least_0 rfl (lv_at hl 0 rfl) ?_
  refine lv_iconst (v := 0) hx hb dX11_least_1 (by decide) ?_
  refine va_put (D := G) (ci := 10) (v := .int (0 : Int32)) (ty := .int) (C := RX11) (T := TX11) (N := 29) hx hb hts inX11 tyX11 tyX11_ok nmX11 hown hK hP hD hS 0 rfl rfl 0 (by decide) hf83 (fun _ h9 => h9) rfl (by decide +kernel) rfl rfl (Nat.le_of_ble_eq_true rfl) dX11_least_2 (fun H locs hP hD hS => ?_)
  have hP : va_P G vwCl (w_X11_least Y h_t B_t (0 : Int32) t_n t_modulus t_rows t_strands t_letters t_listedMany t_listN t_listWhat t_best t_f t_made t_table t_twists) H := hP
  have hD : va_D A (w_X11_least Y h_t B_t (0 : Int32) t_n t_modulus t_rows t_strands t_letters t_listedMany t_listN t_listWhat t_best t_f t_made t_table t_twists) := hD
  refine lv_aload_n hx hb dX11_least_5 rfl (lv_at hl 0 rfl) ?_
  refine mc_vV ⟨hx, hb, hml, hown, hts⟩ hK hE hA hP hD hS (c_X11_leastOf l G Y tF H.size h_t B_t (0 : Int32) t_n t_modulus t_rows t_strands t_letters t_listedMany t_listN t_listWhat t_best t_f t_made t_table h) (cwV 0 hts gX11_least_X11_leastOf rfl rfl rfl (by decide +kernel) ⟨Nat.le_trans (by decide) hRf, Nat.le_trans (by decide) hRl⟩) (fun u => (w_X11_least Y h_t B_t (0 : Int32) t_n t_modulus t_rows t_strands t_letters t_listedMany t_listN t_listWhat u.1 u.2.1 u.2.2 t_table t_twists)) [0, 1, 2, 3, 4] [5] [1, 2, 3, 4, 5, 0] rfl rfl rfl rfl (by decide) (fun _ => rfl) rfl 0 10 rfl rfl rfl rfl hl.1 rfl (Nat.le_of_ble_eq_true rfl) dX11_least_6 (fun u H locs h hP hD hS => ?_)
  obtain ⟨t_best_6, t_f_6, t_made_6⟩ := u
  try dsimp only at h
  have hP : va_P G vwCl (w_X11_least Y h_t B_t (0 : Int32) t_n t_modulus t_rows t_strands t_letters t_listedMany t_listN t_listWhat t_best_6 t_f_6 t_made_6 t_table t_twists) H := hP
  have hD : va_D A (w_X11_least Y h_t B_t (0 : Int32) t_n t_modulus t_rows t_strands t_letters t_listedMany t_listN t_listWhat t_best_6 t_f_6 t_made_6 t_table t_twists) := hD
  refine lv_aload_n hx hb dX11_least_9 rfl (lv_at hl 0 rfl) ?_
  refine mc_vV ⟨hx, hb, hml, hown, hts⟩ hK hE hA hP hD hS (c_X11_straight l G Y tF H.size h_t B_t (0 : Int32) t_n t_modulus t_rows t_strands t_letters t_listedMany t_listN t_listWhat t_twists h) (cwV 0 hts gX11_least_X11_straight rfl rfl rfl (by decide +kernel) ⟨Nat.le_trans (by decide) hRf, Nat.le_trans (by decide) hRl⟩) (fun u => (w_X11_least Y h_t B_t (0 : Int32) t_n t_modulus t_rows t_strands t_letters t_listedMany t_listN t_listWhat t_best_6 t_f_6 t_made_6 t_table u)) [0, 5] [1, 2, 3, 4] [4, 0, 1, 2, 3, 5] rfl rfl rfl rfl (by decide) (fun _ => rfl) rfl 0 10 rfl rfl rfl rfl hl.1 rfl (Nat.le_of_ble_eq_true rfl) dX11_least_10 (fun u H locs h hP hD hS => ?_)
  obtain ⟨t_twists_10, rfl⟩ : ∃ z, z = u := ⟨_, rfl⟩
  try dsimp only at h
  have hP : va_P G vwCl (w_X11_least Y h_t B_t (0 : Int32) t_n t_modulus t_rows t_strands t_letters t_listedMany t_listN t_listWhat t_best_6 t_f_6 t_made_6 t_table t_twists_10) H := hP
  have hD : va_D A (w_X11_least Y h_t B_t (0 : Int32) t_n t_modulus t_rows t_strands t_letters t_listedMany t_listN t_listWhat t_best_6 t_f_6 t_made_6 t_table t_twists_10) := hD
  refine lv_aload_n hx hb dX11_least_13 rfl (lv_at hl 0 rfl) ?_
  refine mc_iV ⟨hx, hb, hml, hown, hts⟩ hK hE hA hP hD hS (c_X11_isBest l G Y tF H.size h_t B_t (0 : Int32) t_n t_modulus t_rows t_strands t_letters t_listedMany t_listN t_listWhat t_best_6 t_table h) (cwV 0 hts gX11_least_X11_isBest rfl rfl rfl (by decide +kernel) ⟨Nat.le_trans (by decide) hRf, Nat.le_trans (by decide) hRl⟩) (fun u => (w_X11_least Y h_t B_t (0 : Int32) t_n t_modulus t_rows t_strands t_letters t_listedMany t_listN t_listWhat t_best_6 t_f_6 t_made_6 t_table t_twists_10)) [0, 1, 4] [2, 3, 5] [3, 4, 0, 1, 5, 2] rfl rfl rfl rfl (by decide) (fun _ => rfl) rfl 0 10 rfl rfl rfl rfl hl.1 rfl (Nat.le_of_ble_eq_true rfl) dX11_least_14 (fun r14 u H locs h hP hD hS => ?_)
  try dsimp only at h
  have hP : va_P G vwCl (w_X11_least Y h_t B_t (0 : Int32) t_n t_modulus t_rows t_strands t_letters t_listedMany t_listN t_listWhat t_best_6 t_f_6 t_made_6 t_table t_twists_10) H := hP
  have hD : va_D A (w_X11_least Y h_t B_t (0 : Int32) t_n t_modulus t_rows t_strands t_letters t_listedMany t_listN t_listWhat t_best_6 t_f_6 t_made_6 t_table t_twists_10) := hD
  obtain ⟨ht, hf⟩ := h
  refine lv_if_eq (tgt := 22) hx hb dX11_least_17 (by decide) (fun c9 => ?_) (fun c9 => ?_)
  · have h := ht c9
    refine lv_iconst (v := 0) hx hb dX11_least_22 (by decide) ?_
    refine lv_istore_n (lv' := [(1, .int (0 : Int32)), (0, .ref h_t)]) hx hb dX11_least_23 rfl hl (by decide) rfl (fun ls hl => ?_)
    obtain ⟨I24, m24, hI24, hB24⟩ := h
    have L24 : ∀ (t_thrown : Int32) (t_best : Nat → Int32) (t_f : Nat → Int32) (t_made : Nat → Int32) (t_twists : Nat → Int32) (I24 : Int32 → (Nat → Int32) → Prop) (m24 : Int32 → (Nat → Int32) → Nat), (∀ (x1 : Int32) (t_table : Nat → Int32), I24 x1 t_table → pX11_least_24 t_n K t_thrown t_best t_f t_made t_twists x1 t_table (fun x1' t_table' => I24 x1' t_table' ∧ m24 x1' t_table' < m24 x1 t_table)) → ∀ (n : Nat) (x1 : Int32) (t_table : Nat → Int32) (H : Heap) (locs : List Loc) (ls : Array Slot), I24 x1 t_table → m24 x1 t_table < n → va_P G vwCl (w_X11_least Y h_t B_t t_thrown t_n t_modulus t_rows t_strands t_letters t_listedMany t_listN t_listWhat t_best t_f t_made t_table t_twists) H → va_D A (w_X11_least Y h_t B_t t_thrown t_n t_modulus t_rows t_strands t_letters t_listedMany t_listN t_listWhat t_best t_f t_made t_table t_twists) → va_S A s.heap H locs → lv_has ls 2 [(0, .ref h_t), (1, .int x1)] → W p l e R s m args below meth c H locs 0 0 Q (F0 m 24 ls []) := by
      intro t_thrown t_best t_f t_made t_twists I24 m24 hB24 n
      induction n with
      | zero => intro x1 t_table H locs ls _ hm; exact absurd hm (Nat.not_lt_zero _)
      | succ n ih =>
        intro x1 t_table H locs ls hI hm hP hD hS hl
        obtain ⟨R24, h, rec24⟩ : ∃ R24 : Int32 → (Nat → Int32) → Prop, pX11_least_24 t_n K t_thrown t_best t_f t_made t_twists x1 t_table R24 ∧ ∀ (x1 : Int32) (t_table : Nat → Int32) (H : Heap) (locs : List Loc) (ls : Array Slot), R24 x1 t_table → va_P G vwCl (w_X11_least Y h_t B_t t_thrown t_n t_modulus t_rows t_strands t_letters t_listedMany t_listN t_listWhat t_best t_f t_made t_table t_twists) H → va_D A (w_X11_least Y h_t B_t t_thrown t_n t_modulus t_rows t_strands t_letters t_listedMany t_listN t_listWhat t_best t_f t_made t_table t_twists) → va_S A s.heap H locs → lv_has ls 2 [(0, .ref h_t), (1, .int x1)] → W p l e R s m args below meth c H locs 0 0 Q (F0 m 24 ls []) := ⟨_, hB24 x1 t_table hI, fun x1 t_table H locs ls hh hP hD hS hl => ih x1 t_table H locs ls hh.1 (Nat.lt_of_lt_of_le hh.2 (Nat.le_of_lt_succ hm)) hP hD hS hl⟩
        refine lv_iload_n hx hb dX11_least_24 rfl (lv_at hl 1 rfl) ?_
        refine lv_bipush (v := 64) hx hb dX11_least_25 (by decide) ?_
        obtain ⟨ht, hf⟩ := h
        refine lv_icmp_ge (tgt := 48) hx hb dX11_least_27 (by decide) (fun c9 => ?_) (fun c9 => ?_)
        · have h := ht c9
          refine lv_iconst (v := 1) hx hb dX11_least_48 (by decide) ?_
          obtain ⟨hz, h⟩ := h
          exact hret (1 : Int32) t_thrown t_best t_f t_made t_table t_twists H locs ls _ hP hD hS hz h dX11_least_49
        · have h := hf c9
          refine lv_aload_n hx hb dX11_least_30 rfl (lv_at hl 0 rfl) ?_
          refine va_get (D := G) (ci := 10) (v := .ref (B_t 2)) (C := RX11) (T := TX11) (N := 29) hx hb hts inX11 hown hK hP 0 rfl rfl 2 (by decide) hf13 (fun _ h9 => h9) rfl dX11_least_31 ?_
          refine lv_iload_n hx hb dX11_least_34 rfl (lv_at hl 1 rfl) ?_
          refine lv_aload_n hx hb dX11_least_35 rfl (lv_at hl 0 rfl) ?_
          refine va_get (D := G) (ci := 10) (v := .ref (B_t 16)) (C := RX11) (T := TX11) (N := 29) hx hb hts inX11 hown hK hP 0 rfl rfl 16 (by decide) hf55 (fun _ h9 => h9) rfl dX11_least_36 ?_
          refine lv_iload_n hx hb dX11_least_39 rfl (lv_at hl 1 rfl) ?_
          obtain ⟨hin, h⟩ := h
          refine va_iald hx hb hK hP 1 0 rfl rfl hin dX11_least_40 ?_
          obtain ⟨hin, h⟩ := h
          refine va_iast hx hb hK hP hD hS 4 0 rfl rfl hin dX11_least_41 (fun H locs hP hD hS => ?_)
          have hP : va_P G vwCl (w_X11_least Y h_t B_t t_thrown t_n t_modulus t_rows t_strands t_letters t_listedMany t_listN t_listWhat t_best t_f t_made (upd t_table (Int32.toNatClampNeg x1) (t_best (Int32.toNatClampNeg x1))) t_twists) H := hP
          have hD : va_D A (w_X11_least Y h_t B_t t_thrown t_n t_modulus t_rows t_strands t_letters t_listedMany t_listN t_listWhat t_best t_f t_made (upd t_table (Int32.toNatClampNeg x1) (t_best (Int32.toNatClampNeg x1))) t_twists) := hD
          refine lv_iinc (v := (x1 + 1)) (lv' := [(1, .int (x1 + 1)), (0, .ref h_t)]) hx hb dX11_least_42 hl (k := 1) rfl rfl (by decide) rfl (fun ls hl => ?_)
          refine lv_goto (tgt := 24) hx hb dX11_least_45 (by decide) ?_
          exact rec24 (x1 + 1) (upd t_table (Int32.toNatClampNeg x1) (t_best (Int32.toNatClampNeg x1))) H locs ls h hP hD hS (lv_sub hl [1, 0] rfl)
    exact L24 (0 : Int32) t_best_6 t_f_6 t_made_6 t_twists_10 I24 m24 hB24 _ (0 : Int32) t_table H locs ls hI24 (Nat.lt_succ_self _) hP hD hS (lv_sub hl [1, 0] rfl)
  · have h := hf c9
    refine lv_iconst (v := 0) hx hb dX11_least_20 (by decide) ?_
    obtain ⟨hz, h⟩ := h
    exact hret (0 : Int32) (0 : Int32) t_best_6 t_f_6 t_made_6 t_table t_twists_10 H locs ls _ hP hD hS hz h dX11_least_21

set_option maxHeartbeats 4000000 in
set_option maxRecDepth 100000 in
theorem c_X11_least (l : Launch) (G : va_G) (Y : Nat → ClassId) (tF sz : Nat) (h_t : Nat) (B_t : Nat → Nat) (t_thrown : Int32) (t_n : Int32) (t_modulus : Int32) (t_rows : Int32) (t_strands : Int32) (t_letters : Int32) (t_listedMany : Int32) (t_listN : Int32) (t_listWhat : Int32) (t_best : Nat → Int32) (t_f : Nat → Int32) (t_made : Nat → Int32) (t_table : Nat → Int32) (t_twists : Nat → Int32) {K : Int32 → Int32 → (Nat → Int32) → (Nat → Int32) → (Nat → Int32) → (Nat → Int32) → (Nat → Int32) → Prop} (h : pX11_least t_thrown t_n t_best t_f t_made t_table t_twists K) : Met l yX11_least wsX11_least ({ frames := 13, cells := 0, slots := 0, locals := 271 }) (PcM G Y tF sz (w_X11_least Y h_t B_t t_thrown t_n t_modulus t_rows t_strands t_letters t_listedMany t_listN t_listWhat t_best t_f t_made t_table t_twists) [.ref h_t]) (va_Qi (fun (r : Int32) (u : Int32 × (Nat → Int32) × (Nat → Int32) × (Nat → Int32) × (Nat → Int32) × (Nat → Int32)) => K r u.1 u.2.1 u.2.2.1 u.2.2.2.1 u.2.2.2.2.1 u.2.2.2.2.2) (fun u t => BM G Y (va_A (w_X11_least Y h_t B_t t_thrown t_n t_modulus t_rows t_strands t_letters t_listedMany t_listN t_listWhat t_best t_f t_made t_table t_twists) sz) (w_X11_least Y h_t B_t u.1 t_n t_modulus t_rows t_strands t_letters t_listedMany t_listN t_listWhat u.2.1 u.2.2.1 u.2.2.2.1 u.2.2.2.2.1 u.2.2.2.2.2) t) (va_A (w_X11_least Y h_t B_t t_thrown t_n t_modulus t_rows t_strands t_letters t_listedMany t_listN t_listWhat t_best t_f t_made t_table t_twists) sz)) 0 0 (va_A (w_X11_least Y h_t B_t t_thrown t_n t_modulus t_rows t_strands t_letters t_listedMany t_listN t_listWhat t_best t_f t_made t_table t_twists) sz) := by
  refine Met.ofW (cc := cX11_least) (maxL := 2) (ret := (some .boolean)) (by decide +kernel) rfl ?_
  intro p e s m args below meth c s₁ B hml hv
  obtain ⟨rfl, hsz, hP, hK, hD0, hE⟩ := hv
  have hts := atoms_spec (ws := wsX11_least) B.pre
  have hown : s.vm.findClass RX11 = some m.cls := findClass_of_methodNamed B.named
  have hlocks := B.notSynchronized
  subst hsz
  have hD := hD0.self (sz := s.heap.size)
  exact wk_X11_least h_t B_t t_thrown t_n t_modulus t_rows t_strands t_letters t_listedMany t_listN t_listWhat t_best t_f t_made t_table t_twists B.exec B.bytes hml hown hts hK hE (fun q h => Or.inr h) (Nat.le_refl _) (Nat.le_refl _) (fun r t_thrown t_best t_f t_made t_table t_twists H locs ls pc hP hD hS hz hk hd => W.zret (v := r) B.exec B.bytes B.returns hz.n (fun t ht hW => ⟨⟨r, (t_thrown, t_best, t_f, t_made, t_table, t_twists), rfl, hk, by rw [ht]; exact hP, va_K.moved hW.alike hK, hD⟩, hS.F ht⟩) hS.2.2 hd) hP hD h

abbrev w_X11_like (Y : Nat → ClassId) (h_t : Nat) (B_t : Nat → Nat) (t_thrown : Int32) (t_n : Int32) (t_modulus : Int32) (t_rows : Int32) (t_strands : Int32) (t_letters : Int32) (t_listedMany : Int32) (t_listN : Int32) (t_listWhat : Int32) (t_f : Nat → Int32) (t_kept : Nat → Int32) (t_keptMany : Nat → Int32) (t_table : Nat → Int32) : va_W := [(h_t, .inr (10, [.int t_thrown, .int t_n, .ref (B_t 2), .int t_modulus, .ref (B_t 4), .ref (B_t 5), .ref (B_t 6), .ref (B_t 7), .ref (B_t 8), .ref (B_t 9), .ref (B_t 10), .int t_rows, .ref (B_t 12), .ref (B_t 13), .ref (B_t 14), .ref (B_t 15), .ref (B_t 16), .ref (B_t 17), .ref (B_t 18), .ref (B_t 19), .int t_strands, .int t_letters, .ref (B_t 22), .ref (B_t 23), .ref (B_t 24), .ref (B_t 25), .int t_listedMany, .int t_listN, .int t_listWhat])), ((B_t 5), .inl (Y 0, 8, .inl t_f)), ((B_t 10), .inl (Y 0, 256, .inl t_kept)), ((B_t 9), .inl (Y 0, 4, .inl t_keptMany)), ((B_t 2), .inl (Y 0, 64, .inl t_table))]

set_option maxHeartbeats 4000000 in
set_option maxRecDepth 100000 in
theorem wk_X11_like {p : Program} {l : Launch} {e : Env} {R : Room} {s : State} {m : MethodId} {args : Array Value} {below : List Frame} {meth : Method} {c : Code} {Q : State → Prop} {G : va_G} {Y : Nat → ClassId} {tF : Nat} {A : Nat → Prop} (h_t : Nat) (B_t : Nat → Nat) (t_thrown : Int32) (t_n : Int32) (t_modulus : Int32) (t_rows : Int32) (t_strands : Int32) (t_letters : Int32) (t_listedMany : Int32) (t_listN : Int32) (t_listWhat : Int32) (t_f : Nat → Int32) (t_kept : Nat → Int32) (t_keptMany : Nat → Int32) (t_table : Nat → Int32) (x1 : Int32) {K : Int32 → Int32 → (Nat → Int32) → Prop} (hx : p.tables.exec = Jvm.exec) (hb : c.code = cX11_like) (hml : c.maxLocals = 3) (hown : s.vm.findClass RX11 = some m.cls) (hts : ∀ w ∈ wsX11_like, w.before args s = true) (hK : va_K G vwCl (tyL Y) s) (hE : Ev A tF s) (hA : ∀ q, s.heap.size ≤ q → A q) (hRf : 12 ≤ R.frames) (hRl : 248 ≤ R.locals) (hret : ∀ (r : Int32) (t_thrown : Int32) (t_f : Nat → Int32) (H : Heap) (locs : List Loc) (ls : Array Slot) (pc : Nat), va_P G vwCl (w_X11_like Y h_t B_t t_thrown t_n t_modulus t_rows t_strands t_letters t_listedMany t_listN t_listWhat t_f t_kept t_keptMany t_table) H → va_D A (w_X11_like Y h_t B_t t_thrown t_n t_modulus t_rows t_strands t_letters t_listedMany t_listN t_listWhat t_f t_kept t_keptMany t_table) → va_S A s.heap H locs → K r t_thrown t_f → decode cX11_like pc = .ok (.ireturn, 1) → W p l e R s m args below meth c H locs 0 0 Q (F0 m pc ls [.int r])) (hP : va_P G vwCl (w_X11_like Y h_t B_t t_thrown t_n t_modulus t_rows t_strands t_letters t_listedMany t_listN t_listWhat t_f t_kept t_keptMany t_table) s.heap) (hD : va_D A (w_X11_like Y h_t B_t t_thrown t_n t_modulus t_rows t_strands t_letters t_listedMany t_listN t_listWhat t_f t_kept t_keptMany t_table)) (h : pX11_like t_thrown t_n t_f t_kept t_keptMany t_table x1 K) : W p l e R s m args below meth c s.heap [] 0 0 Q (entryFrame m ([.ref h_t, .int x1] : List Value).toArray 3) := by
  have inX11 : ∀ w ∈ u_ws RX11 TX11 29, w ∈ wsX11_like := by decide +kernel
  have hf23 := hts (.fieldLink RX11 23 "RackBenchModel" "f" "[I") (by decide +kernel)
  have hf35 := hts (.fieldLink RX11 35 "RackBenchModel" "keptMany" "[I") (by decide +kernel)
  have hf38 := hts (.fieldLink RX11 38 "RackBenchModel" "kept" "[I") (by decide +kernel)
  have hf83 := hts (.fieldLink RX11 83 "RackBenchModel" "thrown" "I") (by decide +kernel)
  have hf9 := hts (.fieldLink RX11 9 "RackBenchModel" "n" "I") (by decide +kernel)
  have hl := lv_entry ([.ref h_t, .int x1]) (n := 3) (Nat.le_of_ble_eq_true rfl)
  rw [lg_entry_eq]
  generalize (lg_sl ([.ref h_t, .int x1]) ++ List.replicate (3 - (lg_sl ([.ref h_t, .int x1])).length) Slot.unset).toArray = ls at hl ⊢
  have hl : lv_has ls 3 [(0, .ref h_t), (1, .int x1)] := hl
  generalize hH0 : s.heap = H at hP ⊢
  have hS : va_S A s.heap H [] := by rw [← hH0]; exact va_S.rf
  clear hH0
  generalize ([] : List Loc) = locs at hS ⊢
  refine lv_aload_n hx hb dX11_like_0 rfl (lv_at hl 0 rfl) ?_
  refine lv_iconst (v := 0) hx hb dX11_like_1 (by decide) ?_
  refine va_put (D := G) (ci := 10) (v := .int (0 : Int32)) (ty := .int) (C := RX11) (T := TX11) (N := 29) hx hb hts inX11 tyX11 tyX11_ok nmX11 hown hK hP hD hS 0 rfl rfl 0 (by decide) hf83 (fun _ h9 => h9) rfl (by decide +kernel) rfl rfl (Nat.le_of_ble_eq_true rfl) dX11_like_2 (fun H locs hP hD hS => ?_)
  have hP : va_P G vwCl (w_X11_like Y h_t B_t (0 : Int32) t_n t_modulus t_rows t_strands t_letters t_listedMany t_listN t_listWhat t_f t_kept t_keptMany t_table) H := hP
  have hD : va_D A (w_X11_like Y h_t B_t (0 : Int32) t_n t_modulus t_rows t_strands t_letters t_listedMany t_listN t_listWhat t_f t_kept t_keptMany t_table) := hD
  refine lv_aload_n hx hb dX11_like_5 rfl (lv_at hl 0 rfl) ?_
  refine lv_iload_n hx hb dX11_like_6 rfl (lv_at hl 1 rfl) ?_
  refine mc_iV ⟨hx, hb, hml, hown, hts⟩ hK hE hA hP hD hS (c_X11_isKept l G Y tF H.size h_t B_t (0 : Int32) t_n t_modulus t_rows t_strands t_letters t_listedMany t_listN t_listWhat t_keptMany x1 h) (cwV 1 hts gX11_like_X11_isKept rfl rfl rfl (by decide +kernel) ⟨Nat.le_trans (by decide) hRf, Nat.le_trans (by decide) hRl⟩) (fun u => (w_X11_like Y h_t B_t (0 : Int32) t_n t_modulus t_rows t_strands t_letters t_listedMany t_listN t_listWhat t_f t_kept t_keptMany t_table)) [0, 3] [1, 2, 4] [3, 0, 1, 4, 2] rfl rfl rfl rfl (by decide) (fun _ => rfl) rfl 0 10 rfl rfl rfl rfl hl.1 rfl (Nat.le_of_ble_eq_true rfl) dX11_like_7 (fun r7 u H locs h hP hD hS => ?_)
  try dsimp only at h
  have hP : va_P G vwCl (w_X11_like Y h_t B_t (0 : Int32) t_n t_modulus t_rows t_strands t_letters t_listedMany t_listN t_listWhat t_f t_kept t_keptMany t_table) H := hP
  have hD : va_D A (w_X11_like Y h_t B_t (0 : Int32) t_n t_modulus t_rows t_strands t_letters t_listedMany t_listN t_listWhat t_f t_kept t_keptMany t_table) := hD
  obtain ⟨ht, hf⟩ := h
  refine lv_if_ne (tgt := 15) hx hb dX11_like_10 (by decide) (fun c9 => ?_) (fun c9 => ?_)
  · have h := ht c9
    refine lv_iconst (v := 0) hx hb dX11_like_15 (by decide) ?_
    refine lv_istore_n (lv' := [(2, .int (0 : Int32)), (0, .ref h_t), (1, .int x1)]) hx hb dX11_like_16 rfl hl (by decide) rfl (fun ls hl => ?_)
    obtain ⟨I17, m17, hI17, hB17⟩ := h
    have L17 : ∀ (x1 : Int32) (t_thrown : Int32) (I17 : Int32 → (Nat → Int32) → Prop) (m17 : Int32 → (Nat → Int32) → Nat), (∀ (x2 : Int32) (t_f : Nat → Int32), I17 x2 t_f → pX11_like_17 t_n t_kept t_keptMany t_table K x1 t_thrown x2 t_f (fun x2' t_f' => I17 x2' t_f' ∧ m17 x2' t_f' < m17 x2 t_f)) → ∀ (n : Nat) (x2 : Int32) (t_f : Nat → Int32) (H : Heap) (locs : List Loc) (ls : Array Slot), I17 x2 t_f → m17 x2 t_f < n → va_P G vwCl (w_X11_like Y h_t B_t t_thrown t_n t_modulus t_rows t_strands t_letters t_listedMany t_listN t_listWhat t_f t_kept t_keptMany t_table) H → va_D A (w_X11_like Y h_t B_t t_thrown t_n t_modulus t_rows t_strands t_letters t_listedMany t_listN t_listWhat t_f t_kept t_keptMany t_table) → va_S A s.heap H locs → lv_has ls 3 [(0, .ref h_t), (1, .int x1), (2, .int x2)] → W p l e R s m args below meth c H locs 0 0 Q (F0 m 17 ls []) := by
      intro x1 t_thrown I17 m17 hB17 n
      induction n with
      | zero => intro x2 t_f H locs ls _ hm; exact absurd hm (Nat.not_lt_zero _)
      | succ n ih =>
        intro x2 t_f H locs ls hI hm hP hD hS hl
        obtain ⟨R17, h, rec17⟩ : ∃ R17 : Int32 → (Nat → Int32) → Prop, pX11_like_17 t_n t_kept t_keptMany t_table K x1 t_thrown x2 t_f R17 ∧ ∀ (x2 : Int32) (t_f : Nat → Int32) (H : Heap) (locs : List Loc) (ls : Array Slot), R17 x2 t_f → va_P G vwCl (w_X11_like Y h_t B_t t_thrown t_n t_modulus t_rows t_strands t_letters t_listedMany t_listN t_listWhat t_f t_kept t_keptMany t_table) H → va_D A (w_X11_like Y h_t B_t t_thrown t_n t_modulus t_rows t_strands t_letters t_listedMany t_listN t_listWhat t_f t_kept t_keptMany t_table) → va_S A s.heap H locs → lv_has ls 3 [(0, .ref h_t), (1, .int x1), (2, .int x2)] → W p l e R s m args below meth c H locs 0 0 Q (F0 m 17 ls []) := ⟨_, hB17 x2 t_f hI, fun x2 t_f H locs ls hh hP hD hS hl => ih x2 t_f H locs ls hh.1 (Nat.lt_of_lt_of_le hh.2 (Nat.le_of_lt_succ hm)) hP hD hS hl⟩
        refine lv_iload_n hx hb dX11_like_17 rfl (lv_at hl 2 rfl) ?_
        refine lv_aload_n hx hb dX11_like_18 rfl (lv_at hl 0 rfl) ?_
        refine va_get (D := G) (ci := 10) (v := .int t_n) (C := RX11) (T := TX11) (N := 29) hx hb hts inX11 hown hK hP 0 rfl rfl 1 (by decide) hf9 (fun _ h9 => h9) rfl dX11_like_19 ?_
        refine mc_iS ⟨hx, hb, hml, hown, hts⟩ hK hE hA hP hD hS (c_X11_factorial 10 l G Y tF H.size t_n h) (va_cwS 1 hts gX11_like_X11_factorial rfl rfl rfl (by decide +kernel) ⟨Nat.le_trans (by decide) hRf, Nat.le_trans (by decide) hRl⟩) (fun u => (w_X11_like Y h_t B_t t_thrown t_n t_modulus t_rows t_strands t_letters t_listedMany t_listN t_listWhat t_f t_kept t_keptMany t_table)) [] [0, 1, 2, 3, 4] [0, 1, 2, 3, 4] rfl rfl rfl rfl (by decide) (fun _ => rfl) rfl rfl hl.1 rfl (Nat.le_of_ble_eq_true rfl) dX11_like_22 (fun r22 u H locs h hP hD hS => ?_)
        try dsimp only at h
        have hP : va_P G vwCl (w_X11_like Y h_t B_t t_thrown t_n t_modulus t_rows t_strands t_letters t_listedMany t_listN t_listWhat t_f t_kept t_keptMany t_table) H := hP
        have hD : va_D A (w_X11_like Y h_t B_t t_thrown t_n t_modulus t_rows t_strands t_letters t_listedMany t_listN t_listWhat t_f t_kept t_keptMany t_table) := hD
        obtain ⟨ht, hf⟩ := h
        refine lv_icmp_ge (tgt := 76) hx hb dX11_like_25 (by decide) (fun c9 => ?_) (fun c9 => ?_)
        · have h := ht c9
          refine lv_iconst (v := 0) hx hb dX11_like_76 (by decide) ?_
          exact hret (0 : Int32) t_thrown t_f H locs ls _ hP hD hS h dX11_like_77
        · have h := hf c9
          refine lv_aload_n hx hb dX11_like_28 rfl (lv_at hl 0 rfl) ?_
          refine va_get (D := G) (ci := 10) (v := .ref (B_t 9)) (C := RX11) (T := TX11) (N := 29) hx hb hts inX11 hown hK hP 0 rfl rfl 9 (by decide) hf35 (fun _ h9 => h9) rfl dX11_like_29 ?_
          refine lv_iload_n hx hb dX11_like_32 rfl (lv_at hl 1 rfl) ?_
          obtain ⟨hin, h⟩ := h
          refine va_iald hx hb hK hP 3 0 rfl rfl hin dX11_like_33 ?_
          refine lv_aload_n hx hb dX11_like_34 rfl (lv_at hl 0 rfl) ?_
          refine va_get (D := G) (ci := 10) (v := .int t_n) (C := RX11) (T := TX11) (N := 29) hx hb hts inX11 hown hK hP 0 rfl rfl 1 (by decide) hf9 (fun _ h9 => h9) rfl dX11_like_35 ?_
          obtain ⟨ht, hf⟩ := h
          refine lv_icmp_ne (tgt := 76) hx hb dX11_like_38 (by decide) (fun c9 => ?_) (fun c9 => ?_)
          · have h := ht c9
            refine lv_iconst (v := 0) hx hb dX11_like_76 (by decide) ?_
            exact hret (0 : Int32) t_thrown t_f H locs ls _ hP hD hS h dX11_like_77
          · have h := hf c9
            refine lv_aload_n hx hb dX11_like_41 rfl (lv_at hl 0 rfl) ?_
            refine va_get (D := G) (ci := 10) (v := .int t_n) (C := RX11) (T := TX11) (N := 29) hx hb hts inX11 hown hK hP 0 rfl rfl 1 (by decide) hf9 (fun _ h9 => h9) rfl dX11_like_42 ?_
            refine lv_iload_n hx hb dX11_like_45 rfl (lv_at hl 2 rfl) ?_
            refine lv_aload_n hx hb dX11_like_46 rfl (lv_at hl 0 rfl) ?_
            refine va_get (D := G) (ci := 10) (v := .ref (B_t 5)) (C := RX11) (T := TX11) (N := 29) hx hb hts inX11 hown hK hP 0 rfl rfl 5 (by decide) hf23 (fun _ h9 => h9) rfl dX11_like_47 ?_
            refine mc_vS ⟨hx, hb, hml, hown, hts⟩ hK hE hA hP hD hS (c_X11_permutation l G Y tF H.size (B_t 5) 8 t_f t_n x2 h) (va_cwS 3 hts gX11_like_X11_permutation rfl rfl rfl (by decide +kernel) ⟨Nat.le_trans (by decide) hRf, Nat.le_trans (by decide) hRl⟩) (fun u => (w_X11_like Y h_t B_t t_thrown t_n t_modulus t_rows t_strands t_letters t_listedMany t_listN t_listWhat u t_kept t_keptMany t_table)) [1] [0, 2, 3, 4] [0, 4, 1, 2, 3] rfl rfl rfl rfl (by decide) (fun _ => rfl) rfl rfl hl.1 rfl (Nat.le_of_ble_eq_true rfl) dX11_like_50 (fun u H locs h hP hD hS => ?_)
            obtain ⟨t_f_50, rfl⟩ : ∃ z, z = u := ⟨_, rfl⟩
            try dsimp only at h
            have hP : va_P G vwCl (w_X11_like Y h_t B_t t_thrown t_n t_modulus t_rows t_strands t_letters t_listedMany t_listN t_listWhat t_f_50 t_kept t_keptMany t_table) H := hP
            have hD : va_D A (w_X11_like Y h_t B_t t_thrown t_n t_modulus t_rows t_strands t_letters t_listedMany t_listN t_listWhat t_f_50 t_kept t_keptMany t_table) := hD
            refine lv_aload_n hx hb dX11_like_53 rfl (lv_at hl 0 rfl) ?_
            refine lv_aload_n hx hb dX11_like_54 rfl (lv_at hl 0 rfl) ?_
            refine va_get (D := G) (ci := 10) (v := .ref (B_t 10)) (C := RX11) (T := TX11) (N := 29) hx hb hts inX11 hown hK hP 0 rfl rfl 10 (by decide) hf38 (fun _ h9 => h9) rfl dX11_like_55 ?_
            refine lv_bipush (v := 64) hx hb dX11_like_58 (by decide) ?_
            refine lv_iload_n hx hb dX11_like_60 rfl (lv_at hl 1 rfl) ?_
            refine lv_imul hx hb dX11_like_61 ?_
            refine mc_iV ⟨hx, hb, hml, hown, hts⟩ hK hE hA hP hD hS (c_X11_makes l G Y tF H.size h_t (B_t 10) B_t 256 t_thrown t_n t_modulus t_rows t_strands t_letters t_listedMany t_listN t_listWhat t_f_50 t_table t_kept ((64 : Int32) * x1) h) (cwV 2 hts gX11_like_X11_makes rfl rfl rfl (by decide +kernel) ⟨Nat.le_trans (by decide) hRf, Nat.le_trans (by decide) hRl⟩) (fun u => (w_X11_like Y h_t B_t t_thrown t_n t_modulus t_rows t_strands t_letters t_listedMany t_listN t_listWhat t_f_50 t_kept t_keptMany t_table)) [0, 1, 4, 2] [3] [1, 2, 4, 0, 3] rfl rfl rfl rfl (by decide) (fun _ => rfl) rfl 0 10 rfl rfl rfl rfl hl.1 rfl (Nat.le_of_ble_eq_true rfl) dX11_like_62 (fun r62 u H locs h hP hD hS => ?_)
            try dsimp only at h
            have hP : va_P G vwCl (w_X11_like Y h_t B_t t_thrown t_n t_modulus t_rows t_strands t_letters t_listedMany t_listN t_listWhat t_f_50 t_kept t_keptMany t_table) H := hP
            have hD : va_D A (w_X11_like Y h_t B_t t_thrown t_n t_modulus t_rows t_strands t_letters t_listedMany t_listN t_listWhat t_f_50 t_kept t_keptMany t_table) := hD
            obtain ⟨ht, hf⟩ := h
            refine lv_if_eq (tgt := 70) hx hb dX11_like_65 (by decide) (fun c9 => ?_) (fun c9 => ?_)
            · have h := ht c9
              refine lv_iinc (v := (x2 + 1)) (lv' := [(2, .int (x2 + 1)), (0, .ref h_t), (1, .int x1)]) hx hb dX11_like_70 hl (k := 2) rfl rfl (by decide) rfl (fun ls hl => ?_)
              refine lv_goto (tgt := 17) hx hb dX11_like_73 (by decide) ?_
              exact rec17 (x2 + 1) t_f_50 H locs ls h hP hD hS (lv_sub hl [1, 2, 0] rfl)
            · have h := hf c9
              refine lv_iconst (v := 1) hx hb dX11_like_68 (by decide) ?_
              exact hret (1 : Int32) t_thrown t_f_50 H locs ls _ hP hD hS h dX11_like_69
    exact L17 x1 (0 : Int32) I17 m17 hB17 _ (0 : Int32) t_f H locs ls hI17 (Nat.lt_succ_self _) hP hD hS (lv_sub hl [1, 2, 0] rfl)
  · have h := hf c9
    refine lv_iconst (v := -1) hx hb dX11_like_13 (by decide) ?_
    exact hret (-1 : Int32) (0 : Int32) t_f H locs ls _ hP hD hS h dX11_like_14

set_option maxHeartbeats 4000000 in
set_option maxRecDepth 100000 in
theorem c_X11_like (l : Launch) (G : va_G) (Y : Nat → ClassId) (tF sz : Nat) (h_t : Nat) (B_t : Nat → Nat) (t_thrown : Int32) (t_n : Int32) (t_modulus : Int32) (t_rows : Int32) (t_strands : Int32) (t_letters : Int32) (t_listedMany : Int32) (t_listN : Int32) (t_listWhat : Int32) (t_f : Nat → Int32) (t_kept : Nat → Int32) (t_keptMany : Nat → Int32) (t_table : Nat → Int32) (x1 : Int32) {K : Int32 → Int32 → (Nat → Int32) → Prop} (h : pX11_like t_thrown t_n t_f t_kept t_keptMany t_table x1 K) : Met l yX11_like wsX11_like ({ frames := 12, cells := 0, slots := 0, locals := 248 }) (PcM G Y tF sz (w_X11_like Y h_t B_t t_thrown t_n t_modulus t_rows t_strands t_letters t_listedMany t_listN t_listWhat t_f t_kept t_keptMany t_table) [.ref h_t, .int x1]) (va_Qi (fun (r : Int32) (u : Int32 × (Nat → Int32)) => K r u.1 u.2) (fun u t => BM G Y (va_A (w_X11_like Y h_t B_t t_thrown t_n t_modulus t_rows t_strands t_letters t_listedMany t_listN t_listWhat t_f t_kept t_keptMany t_table) sz) (w_X11_like Y h_t B_t u.1 t_n t_modulus t_rows t_strands t_letters t_listedMany t_listN t_listWhat u.2 t_kept t_keptMany t_table) t) (va_A (w_X11_like Y h_t B_t t_thrown t_n t_modulus t_rows t_strands t_letters t_listedMany t_listN t_listWhat t_f t_kept t_keptMany t_table) sz)) 0 0 (va_A (w_X11_like Y h_t B_t t_thrown t_n t_modulus t_rows t_strands t_letters t_listedMany t_listN t_listWhat t_f t_kept t_keptMany t_table) sz) := by
  refine Met.ofW (cc := cX11_like) (maxL := 3) (ret := (some .int)) (by decide +kernel) rfl ?_
  intro p e s m args below meth c s₁ B hml hv
  obtain ⟨rfl, hsz, hP, hK, hD0, hE⟩ := hv
  have hts := atoms_spec (ws := wsX11_like) B.pre
  have hown : s.vm.findClass RX11 = some m.cls := findClass_of_methodNamed B.named
  have hlocks := B.notSynchronized
  subst hsz
  have hD := hD0.self (sz := s.heap.size)
  exact wk_X11_like h_t B_t t_thrown t_n t_modulus t_rows t_strands t_letters t_listedMany t_listN t_listWhat t_f t_kept t_keptMany t_table x1 B.exec B.bytes hml hown hts hK hE (fun q h => Or.inr h) (Nat.le_refl _) (Nat.le_refl _) (fun r t_thrown t_f H locs ls pc hP hD hS hk hd => W.iret (v := r) B.exec B.bytes B.returns (fun t ht hW => ⟨⟨r, (t_thrown, t_f), rfl, hk, by rw [ht]; exact hP, va_K.moved hW.alike hK, hD⟩, hS.F ht⟩) hS.2.2 hd) hP hD h

abbrev w_X11_dual (Y : Nat → ClassId) (h_t : Nat) (B_t : Nat → Nat) (t_thrown : Int32) (t_n : Int32) (t_modulus : Int32) (t_rows : Int32) (t_strands : Int32) (t_letters : Int32) (t_listedMany : Int32) (t_listN : Int32) (t_listWhat : Int32) (t_g : Nat → Int32) (t_table : Nat → Int32) (t_twists : Nat → Int32) : va_W := [(h_t, .inr (10, [.int t_thrown, .int t_n, .ref (B_t 2), .int t_modulus, .ref (B_t 4), .ref (B_t 5), .ref (B_t 6), .ref (B_t 7), .ref (B_t 8), .ref (B_t 9), .ref (B_t 10), .int t_rows, .ref (B_t 12), .ref (B_t 13), .ref (B_t 14), .ref (B_t 15), .ref (B_t 16), .ref (B_t 17), .ref (B_t 18), .ref (B_t 19), .int t_strands, .int t_letters, .ref (B_t 22), .ref (B_t 23), .ref (B_t 24), .ref (B_t 25), .int t_listedMany, .int t_listN, .int t_listWhat])), ((B_t 6), .inl (Y 0, 8, .inl t_g)), ((B_t 2), .inl (Y 0, 64, .inl t_table)), ((B_t 4), .inl (Y 0, 64, .inl t_twists))]

set_option maxHeartbeats 4000000 in
set_option maxRecDepth 100000 in
theorem wk_X11_dual {p : Program} {l : Launch} {e : Env} {R : Room} {s : State} {m : MethodId} {args : Array Value} {below : List Frame} {meth : Method} {c : Code} {Q : State → Prop} {G : va_G} {Y : Nat → ClassId} {tF : Nat} {A : Nat → Prop} (h_t : Nat) (B_t : Nat → Nat) (t_thrown : Int32) (t_n : Int32) (t_modulus : Int32) (t_rows : Int32) (t_strands : Int32) (t_letters : Int32) (t_listedMany : Int32) (t_listN : Int32) (t_listWhat : Int32) (t_g : Nat → Int32) (t_table : Nat → Int32) (t_twists : Nat → Int32) {K : Int32 → Int32 → (Nat → Int32) → (Nat → Int32) → (Nat → Int32) → Prop} (hx : p.tables.exec = Jvm.exec) (hb : c.code = cX11_dual) (hml : c.maxLocals = 3) (hown : s.vm.findClass RX11 = some m.cls) (hts : ∀ w ∈ wsX11_dual, w.before args s = true) (hK : va_K G vwCl (tyL Y) s) (hE : Ev A tF s) (hA : ∀ q, s.heap.size ≤ q → A q) (hRf : 2 ≤ R.frames) (hRl : 45 ≤ R.locals) (hret : ∀ (r : Int32) (t_thrown : Int32) (t_g : Nat → Int32) (t_table : Nat → Int32) (t_twists : Nat → Int32) (H : Heap) (locs : List Loc) (ls : Array Slot) (pc : Nat), va_P G vwCl (w_X11_dual Y h_t B_t t_thrown t_n t_modulus t_rows t_strands t_letters t_listedMany t_listN t_listWhat t_g t_table t_twists) H → va_D A (w_X11_dual Y h_t B_t t_thrown t_n t_modulus t_rows t_strands t_letters t_listedMany t_listN t_listWhat t_g t_table t_twists) → va_S A s.heap H locs → zb r → K r t_thrown t_g t_table t_twists → decode cX11_dual pc = .ok (.ireturn, 1) → W p l e R s m args below meth c H locs 0 0 Q (F0 m pc ls [.int r])) (hP : va_P G vwCl (w_X11_dual Y h_t B_t t_thrown t_n t_modulus t_rows t_strands t_letters t_listedMany t_listN t_listWhat t_g t_table t_twists) s.heap) (hD : va_D A (w_X11_dual Y h_t B_t t_thrown t_n t_modulus t_rows t_strands t_letters t_listedMany t_listN t_listWhat t_g t_table t_twists)) (h : pX11_dual t_thrown t_n t_g t_table t_twists K) : W p l e R s m args below meth c s.heap [] 0 0 Q (entryFrame m ([.ref h_t] : List Value).toArray 3) := by
  have inX11 : ∀ w ∈ u_ws RX11 TX11 29, w ∈ wsX11_dual := by decide +kernel
  have hf13 := hts (.fieldLink RX11 13 "RackBenchModel" "table" "[I") (by decide +kernel)
  have hf26 := hts (.fieldLink RX11 26 "RackBenchModel" "g" "[I") (by decide +kernel)
  have hf83 := hts (.fieldLink RX11 83 "RackBenchModel" "thrown" "I") (by decide +kernel)
  have hf9 := hts (.fieldLink RX11 9 "RackBenchModel" "n" "I") (by decide +kernel)
  have hl := lv_entry ([.ref h_t]) (n := 3) (Nat.le_of_ble_eq_true rfl)
  rw [lg_entry_eq]
  generalize (lg_sl ([.ref h_t]) ++ List.replicate (3 - (lg_sl ([.ref h_t])).length) Slot.unset).toArray = ls at hl ⊢
  have hl : lv_has ls 3 [(0, .ref h_t)] := hl
  generalize hH0 : s.heap = H at hP ⊢
  have hS : va_S A s.heap H [] := by rw [← hH0]; exact va_S.rf
  clear hH0
  generalize ([] : List Loc) = locs at hS ⊢
  refine lv_aload_n hx hb dX11_dual_0 rfl (lv_at hl 0 rfl) ?_
  refine lv_iconst (v := 0) hx hb dX11_dual_1 (by decide) ?_
  refine va_put (D := G) (ci := 10) (v := .int (0 : Int32)) (ty := .int) (C := RX11) (T := TX11) (N := 29) hx hb hts inX11 tyX11 tyX11_ok nmX11 hown hK hP hD hS 0 rfl rfl 0 (by decide) hf83 (fun _ h9 => h9) rfl (by decide +kernel) rfl rfl (Nat.le_of_ble_eq_true rfl) dX11_dual_2 (fun H locs hP hD hS => ?_)
  have hP : va_P G vwCl (w_X11_dual Y h_t B_t (0 : Int32) t_n t_modulus t_rows t_strands t_letters t_listedMany t_listN t_listWhat t_g t_table t_twists) H := hP
  have hD : va_D A (w_X11_dual Y h_t B_t (0 : Int32) t_n t_modulus t_rows t_strands t_letters t_listedMany t_listN t_listWhat t_g t_table t_twists) := hD
  refine lv_aload_n hx hb dX11_dual_5 rfl (lv_at hl 0 rfl) ?_
  refine mc_iV ⟨hx, hb, hml, hown, hts⟩ hK hE hA hP hD hS (c_X11_unevenRow l G Y tF H.size h_t B_t (0 : Int32) t_n t_modulus t_rows t_strands t_letters t_listedMany t_listN t_listWhat t_table h) (cwV 0 hts gX11_dual_X11_unevenRow rfl rfl rfl (by decide +kernel) ⟨Nat.le_trans (by decide) hRf, Nat.le_trans (by decide) hRl⟩) (fun u => (w_X11_dual Y h_t B_t (0 : Int32) t_n t_modulus t_rows t_strands t_letters t_listedMany t_listN t_listWhat t_g t_table t_twists)) [0, 2] [1, 3] [2, 0, 3, 1] rfl rfl rfl rfl (by decide) (fun _ => rfl) rfl 0 10 rfl rfl rfl rfl hl.1 rfl (Nat.le_of_ble_eq_true rfl) dX11_dual_6 (fun r6 u H locs h hP hD hS => ?_)
  try dsimp only at h
  have hP : va_P G vwCl (w_X11_dual Y h_t B_t (0 : Int32) t_n t_modulus t_rows t_strands t_letters t_listedMany t_listN t_listWhat t_g t_table t_twists) H := hP
  have hD : va_D A (w_X11_dual Y h_t B_t (0 : Int32) t_n t_modulus t_rows t_strands t_letters t_listedMany t_listN t_listWhat t_g t_table t_twists) := hD
  obtain ⟨ht, hf⟩ := h
  refine lv_if_lt (tgt := 14) hx hb dX11_dual_9 (by decide) (fun c9 => ?_) (fun c9 => ?_)
  · have h := ht c9
    refine lv_aload_n hx hb dX11_dual_14 rfl (lv_at hl 0 rfl) ?_
    refine mc_vV ⟨hx, hb, hml, hown, hts⟩ hK hE hA hP hD hS (c_X11_straight l G Y tF H.size h_t B_t (0 : Int32) t_n t_modulus t_rows t_strands t_letters t_listedMany t_listN t_listWhat t_twists h) (cwV 0 hts gX11_dual_X11_straight rfl rfl rfl (by decide +kernel) ⟨Nat.le_trans (by decide) hRf, Nat.le_trans (by decide) hRl⟩) (fun u => (w_X11_dual Y h_t B_t (0 : Int32) t_n t_modulus t_rows t_strands t_letters t_listedMany t_listN t_listWhat t_g t_table u)) [0, 3] [1, 2] [2, 0, 1, 3] rfl rfl rfl rfl (by decide) (fun _ => rfl) rfl 0 10 rfl rfl rfl rfl hl.1 rfl (Nat.le_of_ble_eq_true rfl) dX11_dual_15 (fun u H locs h hP hD hS => ?_)
    obtain ⟨t_twists_15, rfl⟩ : ∃ z, z = u := ⟨_, rfl⟩
    try dsimp only at h
    have hP : va_P G vwCl (w_X11_dual Y h_t B_t (0 : Int32) t_n t_modulus t_rows t_strands t_letters t_listedMany t_listN t_listWhat t_g t_table t_twists_15) H := hP
    have hD : va_D A (w_X11_dual Y h_t B_t (0 : Int32) t_n t_modulus t_rows t_strands t_letters t_listedMany t_listN t_listWhat t_g t_table t_twists_15) := hD
    refine lv_iconst (v := 0) hx hb dX11_dual_18 (by decide) ?_
    refine lv_istore_n (lv' := [(1, .int (0 : Int32)), (0, .ref h_t)]) hx hb dX11_dual_19 rfl hl (by decide) rfl (fun ls hl => ?_)
    obtain ⟨I20, m20, hI20, hB20⟩ := h
    have L20 : ∀ (t_thrown : Int32) (t_twists : Nat → Int32) (I20 : Int32 → (Nat → Int32) → (Nat → Int32) → Prop) (m20 : Int32 → (Nat → Int32) → (Nat → Int32) → Nat), (∀ (x1 : Int32) (t_g : Nat → Int32) (t_table : Nat → Int32), I20 x1 t_g t_table → pX11_dual_20 t_n K t_thrown t_twists x1 t_g t_table (fun x1' t_g' t_table' => I20 x1' t_g' t_table' ∧ m20 x1' t_g' t_table' < m20 x1 t_g t_table)) → ∀ (n : Nat) (x1 : Int32) (t_g : Nat → Int32) (t_table : Nat → Int32) (H : Heap) (locs : List Loc) (ls : Array Slot), I20 x1 t_g t_table → m20 x1 t_g t_table < n → va_P G vwCl (w_X11_dual Y h_t B_t t_thrown t_n t_modulus t_rows t_strands t_letters t_listedMany t_listN t_listWhat t_g t_table t_twists) H → va_D A (w_X11_dual Y h_t B_t t_thrown t_n t_modulus t_rows t_strands t_letters t_listedMany t_listN t_listWhat t_g t_table t_twists) → va_S A s.heap H locs → lv_has ls 3 [(0, .ref h_t), (1, .int x1)] → W p l e R s m args below meth c H locs 0 0 Q (F0 m 20 ls []) := by
      intro t_thrown t_twists I20 m20 hB20 n
      induction n with
      | zero => intro x1 t_g t_table H locs ls _ hm; exact absurd hm (Nat.not_lt_zero _)
      | succ n ih =>
        intro x1 t_g t_table H locs ls hI hm hP hD hS hl
        obtain ⟨R20, h, rec20⟩ : ∃ R20 : Int32 → (Nat → Int32) → (Nat → Int32) → Prop, pX11_dual_20 t_n K t_thrown t_twists x1 t_g t_table R20 ∧ ∀ (x1 : Int32) (t_g : Nat → Int32) (t_table : Nat → Int32) (H : Heap) (locs : List Loc) (ls : Array Slot), R20 x1 t_g t_table → va_P G vwCl (w_X11_dual Y h_t B_t t_thrown t_n t_modulus t_rows t_strands t_letters t_listedMany t_listN t_listWhat t_g t_table t_twists) H → va_D A (w_X11_dual Y h_t B_t t_thrown t_n t_modulus t_rows t_strands t_letters t_listedMany t_listN t_listWhat t_g t_table t_twists) → va_S A s.heap H locs → lv_has ls 3 [(0, .ref h_t), (1, .int x1)] → W p l e R s m args below meth c H locs 0 0 Q (F0 m 20 ls []) := ⟨_, hB20 x1 t_g t_table hI, fun x1 t_g t_table H locs ls hh hP hD hS hl => ih x1 t_g t_table H locs ls hh.1 (Nat.lt_of_lt_of_le hh.2 (Nat.le_of_lt_succ hm)) hP hD hS hl⟩
        refine lv_iload_n hx hb dX11_dual_20 rfl (lv_at hl 1 rfl) ?_
        refine lv_aload_n hx hb dX11_dual_21 rfl (lv_at hl 0 rfl) ?_
        refine va_get (D := G) (ci := 10) (v := .int t_n) (C := RX11) (T := TX11) (N := 29) hx hb hts inX11 hown hK hP 0 rfl rfl 1 (by decide) hf9 (fun _ h9 => h9) rfl dX11_dual_22 ?_
        obtain ⟨ht, hf⟩ := h
        refine lv_icmp_ge (tgt := 95) hx hb dX11_dual_25 (by decide) (fun c9 => ?_) (fun c9 => ?_)
        · have h := ht c9
          refine lv_iconst (v := 1) hx hb dX11_dual_95 (by decide) ?_
          obtain ⟨hz, h⟩ := h
          exact hret (1 : Int32) t_thrown t_g t_table t_twists H locs ls _ hP hD hS hz h dX11_dual_96
        · have h := hf c9
          refine lv_iconst (v := 0) hx hb dX11_dual_28 (by decide) ?_
          refine lv_istore_n (lv' := [(2, .int (0 : Int32)), (0, .ref h_t), (1, .int x1)]) hx hb dX11_dual_29 rfl hl (by decide) rfl (fun ls hl => ?_)
          obtain ⟨I30, m30, hI30, hB30⟩ := h
          have L30 : ∀ (x1 : Int32) (t_table : Nat → Int32) (I30 : Int32 → (Nat → Int32) → Prop) (m30 : Int32 → (Nat → Int32) → Nat), (∀ (x2 : Int32) (t_g : Nat → Int32), I30 x2 t_g → pX11_dual_30 t_n R20 K t_thrown t_twists x1 t_table x2 t_g (fun x2' t_g' => I30 x2' t_g' ∧ m30 x2' t_g' < m30 x2 t_g)) → ∀ (n : Nat) (x2 : Int32) (t_g : Nat → Int32) (H : Heap) (locs : List Loc) (ls : Array Slot), I30 x2 t_g → m30 x2 t_g < n → va_P G vwCl (w_X11_dual Y h_t B_t t_thrown t_n t_modulus t_rows t_strands t_letters t_listedMany t_listN t_listWhat t_g t_table t_twists) H → va_D A (w_X11_dual Y h_t B_t t_thrown t_n t_modulus t_rows t_strands t_letters t_listedMany t_listN t_listWhat t_g t_table t_twists) → va_S A s.heap H locs → lv_has ls 3 [(0, .ref h_t), (1, .int x1), (2, .int x2)] → W p l e R s m args below meth c H locs 0 0 Q (F0 m 30 ls []) := by
            intro x1 t_table I30 m30 hB30 n
            induction n with
            | zero => intro x2 t_g H locs ls _ hm; exact absurd hm (Nat.not_lt_zero _)
            | succ n ih =>
              intro x2 t_g H locs ls hI hm hP hD hS hl
              obtain ⟨R30, h, rec30⟩ : ∃ R30 : Int32 → (Nat → Int32) → Prop, pX11_dual_30 t_n R20 K t_thrown t_twists x1 t_table x2 t_g R30 ∧ ∀ (x2 : Int32) (t_g : Nat → Int32) (H : Heap) (locs : List Loc) (ls : Array Slot), R30 x2 t_g → va_P G vwCl (w_X11_dual Y h_t B_t t_thrown t_n t_modulus t_rows t_strands t_letters t_listedMany t_listN t_listWhat t_g t_table t_twists) H → va_D A (w_X11_dual Y h_t B_t t_thrown t_n t_modulus t_rows t_strands t_letters t_listedMany t_listN t_listWhat t_g t_table t_twists) → va_S A s.heap H locs → lv_has ls 3 [(0, .ref h_t), (1, .int x1), (2, .int x2)] → W p l e R s m args below meth c H locs 0 0 Q (F0 m 30 ls []) := ⟨_, hB30 x2 t_g hI, fun x2 t_g H locs ls hh hP hD hS hl => ih x2 t_g H locs ls hh.1 (Nat.lt_of_lt_of_le hh.2 (Nat.le_of_lt_succ hm)) hP hD hS hl⟩
              refine lv_iload_n hx hb dX11_dual_30 rfl (lv_at hl 2 rfl) ?_
              refine lv_aload_n hx hb dX11_dual_31 rfl (lv_at hl 0 rfl) ?_
              refine va_get (D := G) (ci := 10) (v := .int t_n) (C := RX11) (T := TX11) (N := 29) hx hb hts inX11 hown hK hP 0 rfl rfl 1 (by decide) hf9 (fun _ h9 => h9) rfl dX11_dual_32 ?_
              obtain ⟨ht, hf⟩ := h
              refine lv_icmp_ge (tgt := 56) hx hb dX11_dual_35 (by decide) (fun c9 => ?_) (fun c9 => ?_)
              · have h := ht c9
                refine lv_iconst (v := 0) hx hb dX11_dual_56 (by decide) ?_
                refine lv_istore_n (lv' := [(2, .int (0 : Int32)), (0, .ref h_t), (1, .int x1)]) hx hb dX11_dual_57 rfl hl (by decide) rfl (fun ls hl => ?_)
                obtain ⟨I58, m58, hI58, hB58⟩ := h
                have L58 : ∀ (x1 : Int32) (t_g : Nat → Int32) (I58 : Int32 → (Nat → Int32) → Prop) (m58 : Int32 → (Nat → Int32) → Nat), (∀ (x2 : Int32) (t_table : Nat → Int32), I58 x2 t_table → pX11_dual_58 t_n R20 R30 K t_thrown t_twists x1 t_g x2 t_table (fun x2' t_table' => I58 x2' t_table' ∧ m58 x2' t_table' < m58 x2 t_table)) → ∀ (n : Nat) (x2 : Int32) (t_table : Nat → Int32) (H : Heap) (locs : List Loc) (ls : Array Slot), I58 x2 t_table → m58 x2 t_table < n → va_P G vwCl (w_X11_dual Y h_t B_t t_thrown t_n t_modulus t_rows t_strands t_letters t_listedMany t_listN t_listWhat t_g t_table t_twists) H → va_D A (w_X11_dual Y h_t B_t t_thrown t_n t_modulus t_rows t_strands t_letters t_listedMany t_listN t_listWhat t_g t_table t_twists) → va_S A s.heap H locs → lv_has ls 3 [(0, .ref h_t), (1, .int x1), (2, .int x2)] → W p l e R s m args below meth c H locs 0 0 Q (F0 m 58 ls []) := by
                  intro x1 t_g I58 m58 hB58 n
                  induction n with
                  | zero => intro x2 t_table H locs ls _ hm; exact absurd hm (Nat.not_lt_zero _)
                  | succ n ih =>
                    intro x2 t_table H locs ls hI hm hP hD hS hl
                    obtain ⟨R58, h, rec58⟩ : ∃ R58 : Int32 → (Nat → Int32) → Prop, pX11_dual_58 t_n R20 R30 K t_thrown t_twists x1 t_g x2 t_table R58 ∧ ∀ (x2 : Int32) (t_table : Nat → Int32) (H : Heap) (locs : List Loc) (ls : Array Slot), R58 x2 t_table → va_P G vwCl (w_X11_dual Y h_t B_t t_thrown t_n t_modulus t_rows t_strands t_letters t_listedMany t_listN t_listWhat t_g t_table t_twists) H → va_D A (w_X11_dual Y h_t B_t t_thrown t_n t_modulus t_rows t_strands t_letters t_listedMany t_listN t_listWhat t_g t_table t_twists) → va_S A s.heap H locs → lv_has ls 3 [(0, .ref h_t), (1, .int x1), (2, .int x2)] → W p l e R s m args below meth c H locs 0 0 Q (F0 m 58 ls []) := ⟨_, hB58 x2 t_table hI, fun x2 t_table H locs ls hh hP hD hS hl => ih x2 t_table H locs ls hh.1 (Nat.lt_of_lt_of_le hh.2 (Nat.le_of_lt_succ hm)) hP hD hS hl⟩
                    refine lv_iload_n hx hb dX11_dual_58 rfl (lv_at hl 2 rfl) ?_
                    refine lv_aload_n hx hb dX11_dual_59 rfl (lv_at hl 0 rfl) ?_
                    refine va_get (D := G) (ci := 10) (v := .int t_n) (C := RX11) (T := TX11) (N := 29) hx hb hts inX11 hown hK hP 0 rfl rfl 1 (by decide) hf9 (fun _ h9 => h9) rfl dX11_dual_60 ?_
                    obtain ⟨ht, hf⟩ := h
                    refine lv_icmp_ge (tgt := 89) hx hb dX11_dual_63 (by decide) (fun c9 => ?_) (fun c9 => ?_)
                    · have h := ht c9
                      refine lv_iinc (v := (x1 + 1)) (lv' := [(1, .int (x1 + 1)), (0, .ref h_t), (2, .int x2)]) hx hb dX11_dual_89 hl (k := 1) rfl rfl (by decide) rfl (fun ls hl => ?_)
                      refine lv_goto (tgt := 20) hx hb dX11_dual_92 (by decide) ?_
                      exact rec20 (x1 + 1) t_g t_table H locs ls h hP hD hS (lv_sub hl [1, 0] rfl)
                    · have h := hf c9
                      refine lv_aload_n hx hb dX11_dual_66 rfl (lv_at hl 0 rfl) ?_
                      refine va_get (D := G) (ci := 10) (v := .ref (B_t 2)) (C := RX11) (T := TX11) (N := 29) hx hb hts inX11 hown hK hP 0 rfl rfl 2 (by decide) hf13 (fun _ h9 => h9) rfl dX11_dual_67 ?_
                      refine lv_bipush (v := 8) hx hb dX11_dual_70 (by decide) ?_
                      refine lv_iload_n hx hb dX11_dual_72 rfl (lv_at hl 1 rfl) ?_
                      refine lv_imul hx hb dX11_dual_73 ?_
                      refine lv_iload_n hx hb dX11_dual_74 rfl (lv_at hl 2 rfl) ?_
                      refine lv_iadd hx hb dX11_dual_75 ?_
                      refine lv_aload_n hx hb dX11_dual_76 rfl (lv_at hl 0 rfl) ?_
                      refine va_get (D := G) (ci := 10) (v := .ref (B_t 6)) (C := RX11) (T := TX11) (N := 29) hx hb hts inX11 hown hK hP 0 rfl rfl 6 (by decide) hf26 (fun _ h9 => h9) rfl dX11_dual_77 ?_
                      refine lv_iload_n hx hb dX11_dual_80 rfl (lv_at hl 2 rfl) ?_
                      obtain ⟨hin, h⟩ := h
                      refine va_iald hx hb hK hP 1 0 rfl rfl hin dX11_dual_81 ?_
                      obtain ⟨hin, h⟩ := h
                      refine va_iast hx hb hK hP hD hS 2 0 rfl rfl hin dX11_dual_82 (fun H locs hP hD hS => ?_)
                      have hP : va_P G vwCl (w_X11_dual Y h_t B_t t_thrown t_n t_modulus t_rows t_strands t_letters t_listedMany t_listN t_listWhat t_g (upd t_table (Int32.toNatClampNeg (((8 : Int32) * x1) + x2)) (t_g (Int32.toNatClampNeg x2))) t_twists) H := hP
                      have hD : va_D A (w_X11_dual Y h_t B_t t_thrown t_n t_modulus t_rows t_strands t_letters t_listedMany t_listN t_listWhat t_g (upd t_table (Int32.toNatClampNeg (((8 : Int32) * x1) + x2)) (t_g (Int32.toNatClampNeg x2))) t_twists) := hD
                      refine lv_iinc (v := (x2 + 1)) (lv' := [(2, .int (x2 + 1)), (0, .ref h_t), (1, .int x1)]) hx hb dX11_dual_83 hl (k := 2) rfl rfl (by decide) rfl (fun ls hl => ?_)
                      refine lv_goto (tgt := 58) hx hb dX11_dual_86 (by decide) ?_
                      exact rec58 (x2 + 1) (upd t_table (Int32.toNatClampNeg (((8 : Int32) * x1) + x2)) (t_g (Int32.toNatClampNeg x2))) H locs ls h hP hD hS (lv_sub hl [1, 2, 0] rfl)
                exact L58 x1 t_g I58 m58 hB58 _ (0 : Int32) t_table H locs ls hI58 (Nat.lt_succ_self _) hP hD hS (lv_sub hl [1, 2, 0] rfl)
              · have h := hf c9
                refine lv_aload_n hx hb dX11_dual_38 rfl (lv_at hl 0 rfl) ?_
                refine va_get (D := G) (ci := 10) (v := .ref (B_t 6)) (C := RX11) (T := TX11) (N := 29) hx hb hts inX11 hown hK hP 0 rfl rfl 6 (by decide) hf26 (fun _ h9 => h9) rfl dX11_dual_39 ?_
                refine lv_aload_n hx hb dX11_dual_42 rfl (lv_at hl 0 rfl) ?_
                refine lv_iload_n hx hb dX11_dual_43 rfl (lv_at hl 1 rfl) ?_
                refine lv_iload_n hx hb dX11_dual_44 rfl (lv_at hl 2 rfl) ?_
                refine mc_iV ⟨hx, hb, hml, hown, hts⟩ hK hE hA hP hD hS (c_X11_by l G Y tF H.size h_t B_t t_thrown t_n t_modulus t_rows t_strands t_letters t_listedMany t_listN t_listWhat t_table x1 x2 h) (cwV 2 hts gX11_dual_X11_by rfl rfl rfl (by decide +kernel) ⟨Nat.le_trans (by decide) hRf, Nat.le_trans (by decide) hRl⟩) (fun u => (w_X11_dual Y h_t B_t t_thrown t_n t_modulus t_rows t_strands t_letters t_listedMany t_listN t_listWhat t_g t_table t_twists)) [0, 2] [1, 3] [2, 0, 3, 1] rfl rfl rfl rfl (by decide) (fun _ => rfl) rfl 0 10 rfl rfl rfl rfl hl.1 rfl (Nat.le_of_ble_eq_true rfl) dX11_dual_45 (fun r45 u H locs h hP hD hS => ?_)
                try dsimp only at h
                have hP : va_P G vwCl (w_X11_dual Y h_t B_t t_thrown t_n t_modulus t_rows t_strands t_letters t_listedMany t_listN t_listWhat t_g t_table t_twists) H := hP
                have hD : va_D A (w_X11_dual Y h_t B_t t_thrown t_n t_modulus t_rows t_strands t_letters t_listedMany t_listN t_listWhat t_g t_table t_twists) := hD
                refine lv_iload_n hx hb dX11_dual_48 rfl (lv_at hl 2 rfl) ?_
                obtain ⟨hin, h⟩ := h
                refine va_iast hx hb hK hP hD hS 1 0 rfl rfl hin dX11_dual_49 (fun H locs hP hD hS => ?_)
                have hP : va_P G vwCl (w_X11_dual Y h_t B_t t_thrown t_n t_modulus t_rows t_strands t_letters t_listedMany t_listN t_listWhat (upd t_g (Int32.toNatClampNeg r45) x2) t_table t_twists) H := hP
                have hD : va_D A (w_X11_dual Y h_t B_t t_thrown t_n t_modulus t_rows t_strands t_letters t_listedMany t_listN t_listWhat (upd t_g (Int32.toNatClampNeg r45) x2) t_table t_twists) := hD
                refine lv_iinc (v := (x2 + 1)) (lv' := [(2, .int (x2 + 1)), (0, .ref h_t), (1, .int x1)]) hx hb dX11_dual_50 hl (k := 2) rfl rfl (by decide) rfl (fun ls hl => ?_)
                refine lv_goto (tgt := 30) hx hb dX11_dual_53 (by decide) ?_
                exact rec30 (x2 + 1) (upd t_g (Int32.toNatClampNeg r45) x2) H locs ls h hP hD hS (lv_sub hl [1, 2, 0] rfl)
          exact L30 x1 t_table I30 m30 hB30 _ (0 : Int32) t_g H locs ls hI30 (Nat.lt_succ_self _) hP hD hS (lv_sub hl [1, 2, 0] rfl)
    exact L20 (0 : Int32) t_twists_15 I20 m20 hB20 _ (0 : Int32) t_g t_table H locs ls hI20 (Nat.lt_succ_self _) hP hD hS (lv_sub hl [1, 0] rfl)
  · have h := hf c9
    refine lv_iconst (v := 0) hx hb dX11_dual_12 (by decide) ?_
    obtain ⟨hz, h⟩ := h
    exact hret (0 : Int32) (0 : Int32) t_g t_table t_twists H locs ls _ hP hD hS hz h dX11_dual_13

set_option maxHeartbeats 4000000 in
set_option maxRecDepth 100000 in
theorem c_X11_dual (l : Launch) (G : va_G) (Y : Nat → ClassId) (tF sz : Nat) (h_t : Nat) (B_t : Nat → Nat) (t_thrown : Int32) (t_n : Int32) (t_modulus : Int32) (t_rows : Int32) (t_strands : Int32) (t_letters : Int32) (t_listedMany : Int32) (t_listN : Int32) (t_listWhat : Int32) (t_g : Nat → Int32) (t_table : Nat → Int32) (t_twists : Nat → Int32) {K : Int32 → Int32 → (Nat → Int32) → (Nat → Int32) → (Nat → Int32) → Prop} (h : pX11_dual t_thrown t_n t_g t_table t_twists K) : Met l yX11_dual wsX11_dual ({ frames := 2, cells := 0, slots := 0, locals := 45 }) (PcM G Y tF sz (w_X11_dual Y h_t B_t t_thrown t_n t_modulus t_rows t_strands t_letters t_listedMany t_listN t_listWhat t_g t_table t_twists) [.ref h_t]) (va_Qi (fun (r : Int32) (u : Int32 × (Nat → Int32) × (Nat → Int32) × (Nat → Int32)) => K r u.1 u.2.1 u.2.2.1 u.2.2.2) (fun u t => BM G Y (va_A (w_X11_dual Y h_t B_t t_thrown t_n t_modulus t_rows t_strands t_letters t_listedMany t_listN t_listWhat t_g t_table t_twists) sz) (w_X11_dual Y h_t B_t u.1 t_n t_modulus t_rows t_strands t_letters t_listedMany t_listN t_listWhat u.2.1 u.2.2.1 u.2.2.2) t) (va_A (w_X11_dual Y h_t B_t t_thrown t_n t_modulus t_rows t_strands t_letters t_listedMany t_listN t_listWhat t_g t_table t_twists) sz)) 0 0 (va_A (w_X11_dual Y h_t B_t t_thrown t_n t_modulus t_rows t_strands t_letters t_listedMany t_listN t_listWhat t_g t_table t_twists) sz) := by
  refine Met.ofW (cc := cX11_dual) (maxL := 3) (ret := (some .boolean)) (by decide +kernel) rfl ?_
  intro p e s m args below meth c s₁ B hml hv
  obtain ⟨rfl, hsz, hP, hK, hD0, hE⟩ := hv
  have hts := atoms_spec (ws := wsX11_dual) B.pre
  have hown : s.vm.findClass RX11 = some m.cls := findClass_of_methodNamed B.named
  have hlocks := B.notSynchronized
  subst hsz
  have hD := hD0.self (sz := s.heap.size)
  exact wk_X11_dual h_t B_t t_thrown t_n t_modulus t_rows t_strands t_letters t_listedMany t_listN t_listWhat t_g t_table t_twists B.exec B.bytes hml hown hts hK hE (fun q h => Or.inr h) (Nat.le_refl _) (Nat.le_refl _) (fun r t_thrown t_g t_table t_twists H locs ls pc hP hD hS hz hk hd => W.zret (v := r) B.exec B.bytes B.returns hz.n (fun t ht hW => ⟨⟨r, (t_thrown, t_g, t_table, t_twists), rfl, hk, by rw [ht]; exact hP, va_K.moved hW.alike hK, hD⟩, hS.F ht⟩) hS.2.2 hd) hP hD h

abbrev w_X11_becomes (Y : Nat → ClassId) (h_t : Nat) (B_t : Nat → Nat) (t_thrown : Int32) (t_n : Int32) (t_modulus : Int32) (t_rows : Int32) (t_strands : Int32) (t_letters : Int32) (t_listedMany : Int32) (t_listN : Int32) (t_listWhat : Int32) (t_made : Nat → Int32) (t_table : Nat → Int32) (t_twists : Nat → Int32) : va_W := [(h_t, .inr (10, [.int t_thrown, .int t_n, .ref (B_t 2), .int t_modulus, .ref (B_t 4), .ref (B_t 5), .ref (B_t 6), .ref (B_t 7), .ref (B_t 8), .ref (B_t 9), .ref (B_t 10), .int t_rows, .ref (B_t 12), .ref (B_t 13), .ref (B_t 14), .ref (B_t 15), .ref (B_t 16), .ref (B_t 17), .ref (B_t 18), .ref (B_t 19), .int t_strands, .int t_letters, .ref (B_t 22), .ref (B_t 23), .ref (B_t 24), .ref (B_t 25), .int t_listedMany, .int t_listN, .int t_listWhat])), ((B_t 17), .inl (Y 0, 64, .inl t_made)), ((B_t 2), .inl (Y 0, 64, .inl t_table)), ((B_t 4), .inl (Y 0, 64, .inl t_twists))]

set_option maxHeartbeats 4000000 in
set_option maxRecDepth 100000 in
theorem wk_X11_becomes {p : Program} {l : Launch} {e : Env} {R : Room} {s : State} {m : MethodId} {args : Array Value} {below : List Frame} {meth : Method} {c : Code} {Q : State → Prop} {G : va_G} {Y : Nat → ClassId} {tF : Nat} {A : Nat → Prop} (h_t : Nat) (B_t : Nat → Nat) (t_thrown : Int32) (t_n : Int32) (t_modulus : Int32) (t_rows : Int32) (t_strands : Int32) (t_letters : Int32) (t_listedMany : Int32) (t_listN : Int32) (t_listWhat : Int32) (t_made : Nat → Int32) (t_table : Nat → Int32) (t_twists : Nat → Int32) (x1 : Int32) {K : Int32 → (Nat → Int32) → (Nat → Int32) → Prop} (hx : p.tables.exec = Jvm.exec) (hb : c.code = cX11_becomes) (hml : c.maxLocals = 3) (hown : s.vm.findClass RX11 = some m.cls) (hts : ∀ w ∈ wsX11_becomes, w.before args s = true) (hK : va_K G vwCl (tyL Y) s) (hE : Ev A tF s) (hA : ∀ q, s.heap.size ≤ q → A q) (hRf : 1 ≤ R.frames) (hRl : 21 ≤ R.locals) (hret : ∀ (t_n : Int32) (t_table : Nat → Int32) (t_twists : Nat → Int32) (H : Heap) (locs : List Loc) (ls : Array Slot) (pc : Nat), va_P G vwCl (w_X11_becomes Y h_t B_t t_thrown t_n t_modulus t_rows t_strands t_letters t_listedMany t_listN t_listWhat t_made t_table t_twists) H → va_D A (w_X11_becomes Y h_t B_t t_thrown t_n t_modulus t_rows t_strands t_letters t_listedMany t_listN t_listWhat t_made t_table t_twists) → va_S A s.heap H locs → K t_n t_table t_twists → decode cX11_becomes pc = .ok (.return_, 1) → W p l e R s m args below meth c H locs 0 0 Q (F0 m pc ls [])) (hP : va_P G vwCl (w_X11_becomes Y h_t B_t t_thrown t_n t_modulus t_rows t_strands t_letters t_listedMany t_listN t_listWhat t_made t_table t_twists) s.heap) (hD : va_D A (w_X11_becomes Y h_t B_t t_thrown t_n t_modulus t_rows t_strands t_letters t_listedMany t_listN t_listWhat t_made t_table t_twists)) (h : pX11_becomes t_n t_made t_table t_twists x1 K) : W p l e R s m args below meth c s.heap [] 0 0 Q (entryFrame m ([.ref h_t, .int x1] : List Value).toArray 3) := by
  have inX11 : ∀ w ∈ u_ws RX11 TX11 29, w ∈ wsX11_becomes := by decide +kernel
  have hf13 := hts (.fieldLink RX11 13 "RackBenchModel" "table" "[I") (by decide +kernel)
  have hf58 := hts (.fieldLink RX11 58 "RackBenchModel" "made" "[I") (by decide +kernel)
  have hf9 := hts (.fieldLink RX11 9 "RackBenchModel" "n" "I") (by decide +kernel)
  have hl := lv_entry ([.ref h_t, .int x1]) (n := 3) (Nat.le_of_ble_eq_true rfl)
  rw [lg_entry_eq]
  generalize (lg_sl ([.ref h_t, .int x1]) ++ List.replicate (3 - (lg_sl ([.ref h_t, .int x1])).length) Slot.unset).toArray = ls at hl ⊢
  have hl : lv_has ls 3 [(0, .ref h_t), (1, .int x1)] := hl
  generalize hH0 : s.heap = H at hP ⊢
  have hS : va_S A s.heap H [] := by rw [← hH0]; exact va_S.rf
  clear hH0
  generalize ([] : List Loc) = locs at hS ⊢
  refine lv_aload_n hx hb dX11_becomes_0 rfl (lv_at hl 0 rfl) ?_
  refine lv_iload_n hx hb dX11_becomes_1 rfl (lv_at hl 1 rfl) ?_
  refine va_put (D := G) (ci := 10) (v := .int x1) (ty := .int) (C := RX11) (T := TX11) (N := 29) hx hb hts inX11 tyX11 tyX11_ok nmX11 hown hK hP hD hS 0 rfl rfl 1 (by decide) hf9 (fun _ h9 => h9) rfl (by decide +kernel) rfl rfl (Nat.le_of_ble_eq_true rfl) dX11_becomes_2 (fun H locs hP hD hS => ?_)
  have hP : va_P G vwCl (w_X11_becomes Y h_t B_t t_thrown x1 t_modulus t_rows t_strands t_letters t_listedMany t_listN t_listWhat t_made t_table t_twists) H := hP
  have hD : va_D A (w_X11_becomes Y h_t B_t t_thrown x1 t_modulus t_rows t_strands t_letters t_listedMany t_listN t_listWhat t_made t_table t_twists) := hD
  refine lv_aload_n hx hb dX11_becomes_5 rfl (lv_at hl 0 rfl) ?_
  refine mc_vV ⟨hx, hb, hml, hown, hts⟩ hK hE hA hP hD hS (c_X11_straight l G Y tF H.size h_t B_t t_thrown x1 t_modulus t_rows t_strands t_letters t_listedMany t_listN t_listWhat t_twists h) (cwV 0 hts gX11_becomes_X11_straight rfl rfl rfl (by decide +kernel) ⟨Nat.le_trans (by decide) hRf, Nat.le_trans (by decide) hRl⟩) (fun u => (w_X11_becomes Y h_t B_t t_thrown x1 t_modulus t_rows t_strands t_letters t_listedMany t_listN t_listWhat t_made t_table u)) [0, 3] [1, 2] [2, 0, 1, 3] rfl rfl rfl rfl (by decide) (fun _ => rfl) rfl 0 10 rfl rfl rfl rfl hl.1 rfl (Nat.le_of_ble_eq_true rfl) dX11_becomes_6 (fun u H locs h hP hD hS => ?_)
  obtain ⟨t_twists_6, rfl⟩ : ∃ z, z = u := ⟨_, rfl⟩
  try dsimp only at h
  have hP : va_P G vwCl (w_X11_becomes Y h_t B_t t_thrown x1 t_modulus t_rows t_strands t_letters t_listedMany t_listN t_listWhat t_made t_table t_twists_6) H := hP
  have hD : va_D A (w_X11_becomes Y h_t B_t t_thrown x1 t_modulus t_rows t_strands t_letters t_listedMany t_listN t_listWhat t_made t_table t_twists_6) := hD
  refine lv_iconst (v := 0) hx hb dX11_becomes_9 (by decide) ?_
  refine lv_istore_n (lv' := [(2, .int (0 : Int32)), (0, .ref h_t), (1, .int x1)]) hx hb dX11_becomes_10 rfl hl (by decide) rfl (fun ls hl => ?_)
  obtain ⟨I11, m11, hI11, hB11⟩ := h
  have L11 : ∀ (t_n : Int32) (t_twists : Nat → Int32) (I11 : Int32 → (Nat → Int32) → Prop) (m11 : Int32 → (Nat → Int32) → Nat), (∀ (x2 : Int32) (t_table : Nat → Int32), I11 x2 t_table → pX11_becomes_11 t_made K t_n t_twists x2 t_table (fun x2' t_table' => I11 x2' t_table' ∧ m11 x2' t_table' < m11 x2 t_table)) → ∀ (n : Nat) (x2 : Int32) (t_table : Nat → Int32) (H : Heap) (locs : List Loc) (ls : Array Slot), I11 x2 t_table → m11 x2 t_table < n → va_P G vwCl (w_X11_becomes Y h_t B_t t_thrown t_n t_modulus t_rows t_strands t_letters t_listedMany t_listN t_listWhat t_made t_table t_twists) H → va_D A (w_X11_becomes Y h_t B_t t_thrown t_n t_modulus t_rows t_strands t_letters t_listedMany t_listN t_listWhat t_made t_table t_twists) → va_S A s.heap H locs → lv_has ls 3 [(0, .ref h_t), (2, .int x2)] → W p l e R s m args below meth c H locs 0 0 Q (F0 m 11 ls []) := by
    intro t_n t_twists I11 m11 hB11 n
    induction n with
    | zero => intro x2 t_table H locs ls _ hm; exact absurd hm (Nat.not_lt_zero _)
    | succ n ih =>
      intro x2 t_table H locs ls hI hm hP hD hS hl
      obtain ⟨R11, h, rec11⟩ : ∃ R11 : Int32 → (Nat → Int32) → Prop, pX11_becomes_11 t_made K t_n t_twists x2 t_table R11 ∧ ∀ (x2 : Int32) (t_table : Nat → Int32) (H : Heap) (locs : List Loc) (ls : Array Slot), R11 x2 t_table → va_P G vwCl (w_X11_becomes Y h_t B_t t_thrown t_n t_modulus t_rows t_strands t_letters t_listedMany t_listN t_listWhat t_made t_table t_twists) H → va_D A (w_X11_becomes Y h_t B_t t_thrown t_n t_modulus t_rows t_strands t_letters t_listedMany t_listN t_listWhat t_made t_table t_twists) → va_S A s.heap H locs → lv_has ls 3 [(0, .ref h_t), (2, .int x2)] → W p l e R s m args below meth c H locs 0 0 Q (F0 m 11 ls []) := ⟨_, hB11 x2 t_table hI, fun x2 t_table H locs ls hh hP hD hS hl => ih x2 t_table H locs ls hh.1 (Nat.lt_of_lt_of_le hh.2 (Nat.le_of_lt_succ hm)) hP hD hS hl⟩
      refine lv_iload_n hx hb dX11_becomes_11 rfl (lv_at hl 1 rfl) ?_
      refine lv_bipush (v := 64) hx hb dX11_becomes_12 (by decide) ?_
      obtain ⟨ht, hf⟩ := h
      refine lv_icmp_ge (tgt := 35) hx hb dX11_becomes_14 (by decide) (fun c9 => ?_) (fun c9 => ?_)
      · have h := ht c9
        exact hret t_n t_table t_twists H locs ls _ hP hD hS h dX11_becomes_35
      · have h := hf c9
        refine lv_aload_n hx hb dX11_becomes_17 rfl (lv_at hl 0 rfl) ?_
        refine va_get (D := G) (ci := 10) (v := .ref (B_t 2)) (C := RX11) (T := TX11) (N := 29) hx hb hts inX11 hown hK hP 0 rfl rfl 2 (by decide) hf13 (fun _ h9 => h9) rfl dX11_becomes_18 ?_
        refine lv_iload_n hx hb dX11_becomes_21 rfl (lv_at hl 1 rfl) ?_
        refine lv_aload_n hx hb dX11_becomes_22 rfl (lv_at hl 0 rfl) ?_
        refine va_get (D := G) (ci := 10) (v := .ref (B_t 17)) (C := RX11) (T := TX11) (N := 29) hx hb hts inX11 hown hK hP 0 rfl rfl 17 (by decide) hf58 (fun _ h9 => h9) rfl dX11_becomes_23 ?_
        refine lv_iload_n hx hb dX11_becomes_26 rfl (lv_at hl 1 rfl) ?_
        obtain ⟨hin, h⟩ := h
        refine va_iald hx hb hK hP 1 0 rfl rfl hin dX11_becomes_27 ?_
        obtain ⟨hin, h⟩ := h
        refine va_iast hx hb hK hP hD hS 2 0 rfl rfl hin dX11_becomes_28 (fun H locs hP hD hS => ?_)
        have hP : va_P G vwCl (w_X11_becomes Y h_t B_t t_thrown t_n t_modulus t_rows t_strands t_letters t_listedMany t_listN t_listWhat t_made (upd t_table (Int32.toNatClampNeg x2) (t_made (Int32.toNatClampNeg x2))) t_twists) H := hP
        have hD : va_D A (w_X11_becomes Y h_t B_t t_thrown t_n t_modulus t_rows t_strands t_letters t_listedMany t_listN t_listWhat t_made (upd t_table (Int32.toNatClampNeg x2) (t_made (Int32.toNatClampNeg x2))) t_twists) := hD
        refine lv_iinc (v := (x2 + 1)) (lv' := [(2, .int (x2 + 1)), (0, .ref h_t)]) hx hb dX11_becomes_29 hl (k := 1) rfl rfl (by decide) rfl (fun ls hl => ?_)
        refine lv_goto (tgt := 11) hx hb dX11_becomes_32 (by decide) ?_
        exact rec11 (x2 + 1) (upd t_table (Int32.toNatClampNeg x2) (t_made (Int32.toNatClampNeg x2))) H locs ls h hP hD hS (lv_sub hl [1, 0] rfl)
  exact L11 x1 t_twists_6 I11 m11 hB11 _ (0 : Int32) t_table H locs ls hI11 (Nat.lt_succ_self _) hP hD hS (lv_sub hl [1, 0] rfl)

set_option maxHeartbeats 4000000 in
set_option maxRecDepth 100000 in
theorem c_X11_becomes (l : Launch) (G : va_G) (Y : Nat → ClassId) (tF sz : Nat) (h_t : Nat) (B_t : Nat → Nat) (t_thrown : Int32) (t_n : Int32) (t_modulus : Int32) (t_rows : Int32) (t_strands : Int32) (t_letters : Int32) (t_listedMany : Int32) (t_listN : Int32) (t_listWhat : Int32) (t_made : Nat → Int32) (t_table : Nat → Int32) (t_twists : Nat → Int32) (x1 : Int32) {K : Int32 → (Nat → Int32) → (Nat → Int32) → Prop} (h : pX11_becomes t_n t_made t_table t_twists x1 K) : Met l yX11_becomes wsX11_becomes ({ frames := 1, cells := 0, slots := 0, locals := 21 }) (PcM G Y tF sz (w_X11_becomes Y h_t B_t t_thrown t_n t_modulus t_rows t_strands t_letters t_listedMany t_listN t_listWhat t_made t_table t_twists) [.ref h_t, .int x1]) (va_Qv (fun u : Int32 × (Nat → Int32) × (Nat → Int32) => K u.1 u.2.1 u.2.2) (fun u t => BM G Y (va_A (w_X11_becomes Y h_t B_t t_thrown t_n t_modulus t_rows t_strands t_letters t_listedMany t_listN t_listWhat t_made t_table t_twists) sz) (w_X11_becomes Y h_t B_t t_thrown u.1 t_modulus t_rows t_strands t_letters t_listedMany t_listN t_listWhat t_made u.2.1 u.2.2) t) (va_A (w_X11_becomes Y h_t B_t t_thrown t_n t_modulus t_rows t_strands t_letters t_listedMany t_listN t_listWhat t_made t_table t_twists) sz)) 0 0 (va_A (w_X11_becomes Y h_t B_t t_thrown t_n t_modulus t_rows t_strands t_letters t_listedMany t_listN t_listWhat t_made t_table t_twists) sz) := by
  refine Met.ofW (cc := cX11_becomes) (maxL := 3) (ret := none) (by decide +kernel) rfl ?_
  intro p e s m args below meth c s₁ B hml hv
  obtain ⟨rfl, hsz, hP, hK, hD0, hE⟩ := hv
  have hts := atoms_spec (ws := wsX11_becomes) B.pre
  have hown : s.vm.findClass RX11 = some m.cls := findClass_of_methodNamed B.named
  have hlocks := B.notSynchronized
  subst hsz
  have hD := hD0.self (sz := s.heap.size)
  exact wk_X11_becomes h_t B_t t_thrown t_n t_modulus t_rows t_strands t_letters t_listedMany t_listN t_listWhat t_made t_table t_twists x1 B.exec B.bytes hml hown hts hK hE (fun q h => Or.inr h) (Nat.le_refl _) (Nat.le_refl _) (fun t_n t_table t_twists H locs ls pc hP hD hS hk hd => W.vret B.exec B.bytes B.returns (fun t ht hW => ⟨⟨(t_n, t_table, t_twists), rfl, hk, by rw [ht]; exact hP, va_K.moved hW.alike hK, hD⟩, hS.F ht⟩) hS.2.2 hd) hP hD h
