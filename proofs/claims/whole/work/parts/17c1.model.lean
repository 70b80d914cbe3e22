abbrev w_X11_times (Y : Nat → ClassId) (h_t : Nat) (B_t : Nat → Nat) (t_thrown : Int32) (t_n : Int32) (t_modulus : Int32) (t_rows : Int32) (t_strands : Int32) (t_letters : Int32) (t_listedMany : Int32) (t_listN : Int32) (t_listWhat : Int32) (t_kept : Nat → Int32) (t_keptMany : Nat → Int32) (t_made : Nat → Int32) (t_table : Nat → Int32) (t_twists : Nat → Int32) : va_W := [(h_t, .inr (10, [.int t_thrown, .int t_n, .ref (B_t 2), .int t_modulus, .ref (B_t 4), .ref (B_t 5), .ref (B_t 6), .ref (B_t 7), .ref (B_t 8), .ref (B_t 9), .ref (B_t 10), .int t_rows, .ref (B_t 12), .ref (B_t 13), .ref (B_t 14), .ref (B_t 15), .ref (B_t 16), .ref (B_t 17), .ref (B_t 18), .ref (B_t 19), .int t_strands, .int t_letters, .ref (B_t 22), .ref (B_t 23), .ref (B_t 24), .ref (B_t 25), .int t_listedMany, .int t_listN, .int t_listWhat])), ((B_t 10), .inl (Y 0, 256, .inl t_kept)), ((B_t 9), .inl (Y 0, 4, .inl t_keptMany)), ((B_t 17), .inl (Y 0, 64, .inl t_made)), ((B_t 2), .inl (Y 0, 64, .inl t_table)), ((B_t 4), .inl (Y 0, 64, .inl t_twists))]

set_option maxHeartbeats 20000000 in
set_option maxRecDepth 100000 in
theorem wk_X11_times {p : Program} {l : Launch} {e : Env} {R : Room} {s : State} {m : MethodId} {args : Array Value} {below : List Frame} {meth : Method} {c : Code} {Q : State → Prop} {G : va_G} {Y : Nat → ClassId} {tF : Nat} {A : Nat → Prop} (h_t : Nat) (B_t : Nat → Nat) (t_thrown : Int32) (t_n : Int32) (t_modulus : Int32) (t_rows : Int32) (t_strands : Int32) (t_letters : Int32) (t_listedMany : Int32) (t_listN : Int32) (t_listWhat : Int32) (t_kept : Nat → Int32) (t_keptMany : Nat → Int32) (t_made : Nat → Int32) (t_table : Nat → Int32) (t_twists : Nat → Int32) (x1 : Int32) {K : Int32 → Int32 → Int32 → (Nat → Int32) → (Nat → Int32) → (Nat → Int32) → Prop} (hx : p.tables.exec = Jvm.exec) (hb : c.code = cX11_times) (hml : c.maxLocals = 6) (hown : s.vm.findClass RX11 = some m.cls) (hts : ∀ w ∈ wsX11_times, w.before args s = true) (hK : va_K G vwCl (tyL Y) s) (hE : Ev A tF s) (hA : ∀ q, s.heap.size ≤ q → A q) (hRf : 2 ≤ R.frames) (hRl : 46 ≤ R.locals) (hret : ∀ (r : Int32) (t_thrown : Int32) (t_n : Int32) (t_made : Nat → Int32) (t_table : Nat → Int32) (t_twists : Nat → Int32) (H : Heap) (locs : List Loc) (ls : Array Slot) (pc : Nat), va_P G vwCl (w_X11_times Y h_t B_t t_thrown t_n t_modulus t_rows t_strands t_letters t_listedMany t_listN t_listWhat t_kept t_keptMany t_made t_table t_twists) H → va_D A (w_X11_times Y h_t B_t t_thrown t_n t_modulus t_rows t_strands t_letters t_listedMany t_listN t_listWhat t_kept t_keptMany t_made t_table t_twists) → va_S A s.heap H locs → K r t_thrown t_n t_made t_table t_twists → decode cX11_times pc = .ok (.ireturn, 1) → W p l e R s m args below meth c H locs 0 0 Q (F0 m pc ls [.int r])) (hP : va_P G vwCl (w_X11_times Y h_t B_t t_thrown t_n t_modulus t_rows t_strands t_letters t_listedMany t_listN t_listWhat t_kept t_keptMany t_made t_table t_twists) s.heap) (hD : va_D A (w_X11_times Y h_t B_t t_thrown t_n t_modulus t_rows t_strands t_letters t_listedMany t_listN t_listWhat t_kept t_keptMany t_made t_table t_twists)) (h : pX11_times t_thrown t_n t_kept t_keptMany t_made t_table t_twists x1 K) : W p l e R s m args below meth c s.heap [] 0 0 Q (entryFrame m ([.ref h_t, .int x1] : List Value).toArray 6) := by
  have inX11 : ∀ w ∈ u_ws RX11 TX11 29, w ∈ wsX11_times := by decide +kernel
  have hf35 := hts (.fieldLink RX11 35 "RackBenchModel" "keptMany" "[I") (by decide +kernel)
  have hf38 := hts (.fieldLink RX11 38 "RackBenchModel" "kept" "[I") (by decide +kernel)
  have hf58 := hts (.fieldLink RX11 58 "RackBenchModel" "made" "[I") (by decide +kernel)
  have hf83 := hts (.fieldLink RX11 83 "RackBenchModel" "thrown" "I") (by decide +kernel)
  have hf9 := hts (.fieldLink RX11 9 "RackBenchModel" "n" "I") (by decide +kernel)
  have hl := lv_entry ([.ref h_t, .int x1]) (n := 6) (Nat.le_of_ble_eq_true rfl)
  rw [lg_entry_eq]
  generalize (lg_sl ([.ref h_t, .int x1]) ++ List.replicate (6 - (lg_sl ([.ref h_t, .int x1])).length) Slot.unset).toArray = ls at hl ⊢
  have hl : lv_has ls 6 [(0, .ref h_t), (1, .int x1)] := hl
  generalize hH0 : s.heap = H at hP ⊢
  have hS : va_S A s.heap H [] := by rw [← hH0]; exact va_S.rf
  clear hH0
  generalize ([] : List Loc) = locs at hS ⊢
  refine lv_aload_n hx hb dX11_times_0 rfl (lv_at hl 0 rfl) ?_
  refine lv_iconst (v := 0) hx hb dX11_times_1 (by decide) ?_
  refine va_put (D := G) (ci := 10) (v := .int (0 : Int32)) (ty := .int) (C := RX11) (T := TX11) (N := 29) hx hb hts inX11 tyX11 tyX11_ok nmX11 hown hK hP hD hS 0 rfl rfl 0 (by decide) hf83 (fun _ h9 => h9) rfl (by decide +kernel) rfl rfl (Nat.le_of_ble_eq_true rfl) dX11_times_2 (fun H locs hP hD hS => ?_)
  have hP : va_P G vwCl (w_X11_times Y h_t B_t (0 : Int32) t_n t_modulus t_rows t_strands t_letters t_listedMany t_listN t_listWhat t_kept t_keptMany t_made t_table t_twists) H := hP
  have hD : va_D A (w_X11_times Y h_t B_t (0 : Int32) t_n t_modulus t_rows t_strands t_letters t_listedMany t_listN t_listWhat t_kept t_keptMany t_made t_table t_twists) := hD
  refine lv_aload_n hx hb dX11_times_5 rfl (lv_at hl 0 rfl) ?_
  refine lv_iload_n hx hb dX11_times_6 rfl (lv_at hl 1 rfl) ?_
  refine mc_iV ⟨hx, hb, hml, hown, hts⟩ hK hE hA hP hD hS (c_X11_isKept l G Y tF H.size h_t B_t (0 : Int32) t_n t_modulus t_rows t_strands t_letters t_listedMany t_listN t_listWhat t_keptMany x1 h) (cwV 1 hts gX11_times_X11_isKept rfl rfl rfl (by decide +kernel) ⟨Nat.le_trans (by decide) hRf, Nat.le_trans (by decide) hRl⟩) (fun u => (w_X11_times Y h_t B_t (0 : Int32) t_n t_modulus t_rows t_strands t_letters t_listedMany t_listN t_listWhat t_kept t_keptMany t_made t_table t_twists)) [0, 2] [1, 3, 4, 5] [4, 0, 5, 1, 2, 3] rfl rfl rfl rfl (by decide) (fun _ => rfl) rfl 0 10 rfl rfl rfl rfl hl.1 rfl (Nat.le_of_ble_eq_true rfl) dX11_times_7 (fun r7 u H locs h hP hD hS => ?_)
  try dsimp only at h
  have hP : va_P G vwCl (w_X11_times Y h_t B_t (0 : Int32) t_n t_modulus t_rows t_strands t_letters t_listedMany t_listN t_listWhat t_kept t_keptMany t_made t_table t_twists) H := hP
  have hD : va_D A (w_X11_times Y h_t B_t (0 : Int32) t_n t_modulus t_rows t_strands t_letters t_listedMany t_listN t_listWhat t_kept t_keptMany t_made t_table t_twists) := hD
  obtain ⟨ht, hf⟩ := h
  refine lv_if_eq (tgt := 29) hx hb dX11_times_10 (by decide) (fun c9 => ?_) (fun c9 => ?_)
  · have h := ht c9
    refine lv_iconst (v := -1) hx hb dX11_times_29 (by decide) ?_
    exact hret (-1 : Int32) (0 : Int32) t_n t_made t_table t_twists H locs ls _ hP hD hS h dX11_times_30
  · have h := hf c9
    refine lv_aload_n hx hb dX11_times_13 rfl (lv_at hl 0 rfl) ?_
    refine va_get (D := G) (ci := 10) (v := .int t_n) (C := RX11) (T := TX11) (N := 29) hx hb hts inX11 hown hK hP 0 rfl rfl 1 (by decide) hf9 (fun _ h9 => h9) rfl dX11_times_14 ?_
    refine lv_aload_n hx hb dX11_times_17 rfl (lv_at hl 0 rfl) ?_
    refine va_get (D := G) (ci := 10) (v := .ref (B_t 9)) (C := RX11) (T := TX11) (N := 29) hx hb hts inX11 hown hK hP 0 rfl rfl 9 (by decide) hf35 (fun _ h9 => h9) rfl dX11_times_18 ?_
    refine lv_iload_n hx hb dX11_times_21 rfl (lv_at hl 1 rfl) ?_
    obtain ⟨hin, h⟩ := h
    refine va_iald hx hb hK hP 2 0 rfl rfl hin dX11_times_22 ?_
    refine lv_imul hx hb dX11_times_23 ?_
    refine lv_bipush (v := 8) hx hb dX11_times_24 (by decide) ?_
    obtain ⟨ht, hf⟩ := h
    refine lv_icmp_le (tgt := 31) hx hb dX11_times_26 (by decide) (fun c9 => ?_) (fun c9 => ?_)
    · have h := ht c9
      refine lv_aload_n hx hb dX11_times_31 rfl (lv_at hl 0 rfl) ?_
      refine va_get (D := G) (ci := 10) (v := .ref (B_t 9)) (C := RX11) (T := TX11) (N := 29) hx hb hts inX11 hown hK hP 0 rfl rfl 9 (by decide) hf35 (fun _ h9 => h9) rfl dX11_times_32 ?_
      refine lv_iload_n hx hb dX11_times_35 rfl (lv_at hl 1 rfl) ?_
      obtain ⟨hin, h⟩ := h
      refine va_iald hx hb hK hP 2 0 rfl rfl hin dX11_times_36 ?_
      refine lv_istore_n (lv' := [(2, .int (t_keptMany (Int32.toNatClampNeg x1))), (0, .ref h_t), (1, .int x1)]) hx hb dX11_times_37 rfl hl (by decide) rfl (fun ls hl => ?_)
      refine lv_aload_n hx hb dX11_times_38 rfl (lv_at hl 1 rfl) ?_
      refine va_get (D := G) (ci := 10) (v := .int t_n) (C := RX11) (T := TX11) (N := 29) hx hb hts inX11 hown hK hP 0 rfl rfl 1 (by decide) hf9 (fun _ h9 => h9) rfl dX11_times_39 ?_
      refine lv_iload_n hx hb dX11_times_42 rfl (lv_at hl 0 rfl) ?_
      refine lv_imul hx hb dX11_times_43 ?_
      refine lv_istore_n (lv' := [(3, .int (t_n * (t_keptMany (Int32.toNatClampNeg x1)))), (2, .int (t_keptMany (Int32.toNatClampNeg x1))), (0, .ref h_t), (1, .int x1)]) hx hb dX11_times_44 rfl hl (by decide) rfl (fun ls hl => ?_)
      refine lv_iconst (v := 0) hx hb dX11_times_45 (by decide) ?_
      refine lv_istore (lv' := [(4, .int (0 : Int32)), (3, .int (t_n * (t_keptMany (Int32.toNatClampNeg x1)))), (2, .int (t_keptMany (Int32.toNatClampNeg x1))), (0, .ref h_t), (1, .int x1)]) hx hb dX11_times_46 hl (by decide) rfl (fun ls hl => ?_)
      obtain ⟨I48, m48, hI48, hB48⟩ := h
      have L48 : ∀ (x1 : Int32) (x2 : Int32) (x3 : Int32) (t_thrown : Int32) (t_n : Int32) (t_table : Nat → Int32) (t_twists : Nat → Int32) (I48 : Int32 → (Nat → Int32) → Prop) (m48 : Int32 → (Nat → Int32) → Nat), (∀ (x4 : Int32) (t_made : Nat → Int32), I48 x4 t_made → pX11_times_48 t_kept t_keptMany K x1 x2 x3 t_thrown t_n t_table t_twists x4 t_made (fun x4' t_made' => I48 x4' t_made' ∧ m48 x4' t_made' < m48 x4 t_made)) → ∀ (n : Nat) (x4 : Int32) (t_made : Nat → Int32) (H : Heap) (locs : List Loc) (ls : Array Slot), I48 x4 t_made → m48 x4 t_made < n → va_P G vwCl (w_X11_times Y h_t B_t t_thrown t_n t_modulus t_rows t_strands t_letters t_listedMany t_listN t_listWhat t_kept t_keptMany t_made t_table t_twists) H → va_D A (w_X11_times Y h_t B_t t_thrown t_n t_modulus t_rows t_strands t_letters t_listedMany t_listN t_listWhat t_kept t_keptMany t_made t_table t_twists) → va_S A s.heap H locs → lv_has ls 6 [(0, .ref h_t), (1, .int x1), (2, .int x2), (3, .int x3), (4, .int x4)] → W p l e R s m args below meth c H locs 0 0 Q (F0 m 48 ls []) := by
        intro x1 x2 x3 t_thrown t_n t_table t_twists I48 m48 hB48 n
        induction n with
        | zero => intro x4 t_made H locs ls _ hm; exact absurd hm (Nat.not_lt_zero _)
        | succ n ih =>
          intro x4 t_made H locs ls hI hm hP hD hS hl
          obtain ⟨R48, h, rec48⟩ : ∃ R48 : Int32 → (Nat → Int32) → Prop, pX11_times_48 t_kept t_keptMany K x1 x2 x3 t_thrown t_n t_table t_twists x4 t_made R48 ∧ ∀ (x4 : Int32) (t_made : Nat → Int32) (H : Heap) (locs : List Loc) (ls : Array Slot), R48 x4 t_made → va_P G vwCl (w_X11_times Y h_t B_t t_thrown t_n t_modulus t_rows t_strands t_letters t_listedMany t_listN t_listWhat t_kept t_keptMany t_made t_table t_twists) H → va_D A (w_X11_times Y h_t B_t t_thrown t_n t_modulus t_rows t_strands t_letters t_listedMany t_listN t_listWhat t_kept t_keptMany t_made t_table t_twists) → va_S A s.heap H locs → lv_has ls 6 [(0, .ref h_t), (1, .int x1), (2, .int x2), (3, .int x3), (4, .int x4)] → W p l e R s m args below meth c H locs 0 0 Q (F0 m 48 ls []) := ⟨_, hB48 x4 t_made hI, fun x4 t_made H locs ls hh hP hD hS hl => ih x4 t_made H locs ls hh.1 (Nat.lt_of_lt_of_le hh.2 (Nat.le_of_lt_succ hm)) hP hD hS hl⟩
          refine lv_iload hx hb dX11_times_48 (lv_at hl 4 rfl) ?_
          refine lv_iload_n hx hb dX11_times_50 rfl (lv_at hl 3 rfl) ?_
          obtain ⟨ht, hf⟩ := h
          refine lv_icmp_ge (tgt := 125) hx hb dX11_times_51 (by decide) (fun c9 => ?_) (fun c9 => ?_)
          · have h := ht c9
            refine lv_aload_n hx hb dX11_times_125 rfl (lv_at hl 0 rfl) ?_
            refine lv_iload_n hx hb dX11_times_126 rfl (lv_at hl 3 rfl) ?_
            refine mc_vV ⟨hx, hb, hml, hown, hts⟩ hK hE hA hP hD hS (c_X11_becomes l G Y tF H.size h_t B_t t_thrown t_n t_modulus t_rows t_strands t_letters t_listedMany t_listN t_listWhat t_made t_table t_twists x3 h) (cwV 1 hts gX11_times_X11_becomes rfl rfl rfl (by decide +kernel) ⟨Nat.le_trans (by decide) hRf, Nat.le_trans (by decide) hRl⟩) (fun u => (w_X11_times Y h_t B_t t_thrown u.1 t_modulus t_rows t_strands t_letters t_listedMany t_listN t_listWhat t_kept t_keptMany t_made u.2.1 u.2.2)) [0, 3, 4, 5] [1, 2] [2, 0, 1, 3, 4, 5] rfl rfl rfl rfl (by decide) (fun _ => rfl) rfl 0 10 rfl rfl rfl rfl hl.1 rfl (Nat.le_of_ble_eq_true rfl) dX11_times_127 (fun u H locs h hP hD hS => ?_)
            obtain ⟨t_n_127, t_table_127, t_twists_127⟩ := u
            try dsimp only at h
            have hP : va_P G vwCl (w_X11_times Y h_t B_t t_thrown t_n_127 t_modulus t_rows t_strands t_letters t_listedMany t_listN t_listWhat t_kept t_keptMany t_made t_table_127 t_twists_127) H := hP
            have hD : va_D A (w_X11_times Y h_t B_t t_thrown t_n_127 t_modulus t_rows t_strands t_letters t_listedMany t_listN t_listWhat t_kept t_keptMany t_made t_table_127 t_twists_127) := hD
            refine lv_aload_n hx hb dX11_times_130 rfl (lv_at hl 0 rfl) ?_
            refine va_get (D := G) (ci := 10) (v := .int t_n_127) (C := RX11) (T := TX11) (N := 29) hx hb hts inX11 hown hK hP 0 rfl rfl 1 (by decide) hf9 (fun _ h9 => h9) rfl dX11_times_131 ?_
            exact hret t_n_127 t_thrown t_n_127 t_made t_table_127 t_twists_127 H locs ls _ hP hD hS h dX11_times_134
          · have h := hf c9
            refine lv_iconst (v := 0) hx hb dX11_times_54 (by decide) ?_
            refine lv_istore (lv' := [(5, .int (0 : Int32)), (0, .ref h_t), (1, .int x1), (2, .int x2), (3, .int x3), (4, .int x4)]) hx hb dX11_times_55 hl (by decide) rfl (fun ls hl => ?_)
            obtain ⟨I57, m57, hI57, hB57⟩ := h
            have L57 : ∀ (x4 : Int32) (I57 : Int32 → (Nat → Int32) → Prop) (m57 : Int32 → (Nat → Int32) → Nat), (∀ (x5 : Int32) (t_made : Nat → Int32), I57 x5 t_made → pX11_times_57 t_kept t_keptMany R48 K x1 x2 x3 t_thrown t_n t_table t_twists x4 x5 t_made (fun x5' t_made' => I57 x5' t_made' ∧ m57 x5' t_made' < m57 x5 t_made)) → ∀ (n : Nat) (x5 : Int32) (t_made : Nat → Int32) (H : Heap) (locs : List Loc) (ls : Array Slot), I57 x5 t_made → m57 x5 t_made < n → va_P G vwCl (w_X11_times Y h_t B_t t_thrown t_n t_modulus t_rows t_strands t_letters t_listedMany t_listN t_listWhat t_kept t_keptMany t_made t_table t_twists) H → va_D A (w_X11_times Y h_t B_t t_thrown t_n t_modulus t_rows t_strands t_letters t_listedMany t_listN t_listWhat t_kept t_keptMany t_made t_table t_twists) → va_S A s.heap H locs → lv_has ls 6 [(0, .ref h_t), (1, .int x1), (2, .int x2), (3, .int x3), (4, .int x4), (5, .int x5)] → W p l e R s m args below meth c H locs 0 0 Q (F0 m 57 ls []) := by
              intro x4 I57 m57 hB57 n
              induction n with
              | zero => intro x5 t_made H locs ls _ hm; exact absurd hm (Nat.not_lt_zero _)
              | succ n ih =>
                intro x5 t_made H locs ls hI hm hP hD hS hl
                obtain ⟨R57, h, rec57⟩ : ∃ R57 : Int32 → (Nat → Int32) → Prop, pX11_times_57 t_kept t_keptMany R48 K x1 x2 x3 t_thrown t_n t_table t_twists x4 x5 t_made R57 ∧ ∀ (x5 : Int32) (t_made : Nat → Int32) (H : Heap) (locs : List Loc) (ls : Array Slot), R57 x5 t_made → va_P G vwCl (w_X11_times Y h_t B_t t_thrown t_n t_modulus t_rows t_strands t_letters t_listedMany t_listN t_listWhat t_kept t_keptMany t_made t_table t_twists) H → va_D A (w_X11_times Y h_t B_t t_thrown t_n t_modulus t_rows t_strands t_letters t_listedMany t_listN t_listWhat t_kept t_keptMany t_made t_table t_twists) → va_S A s.heap H locs → lv_has ls 6 [(0, .ref h_t), (1, .int x1), (2, .int x2), (3, .int x3), (4, .int x4), (5, .int x5)] → W p l e R s m args below meth c H locs 0 0 Q (F0 m 57 ls []) := ⟨_, hB57 x5 t_made hI, fun x5 t_made H locs ls hh hP hD hS hl => ih x5 t_made H locs ls hh.1 (Nat.lt_of_lt_of_le hh.2 (Nat.le_of_lt_succ hm)) hP hD hS hl⟩
                refine lv_iload hx hb dX11_times_57 (lv_at hl 5 rfl) ?_
                refine lv_iload_n hx hb dX11_times_59 rfl (lv_at hl 3 rfl) ?_
                obtain ⟨ht, hf⟩ := h
                refine lv_icmp_ge (tgt := 119) hx hb dX11_times_60 (by decide) (fun c9 => ?_) (fun c9 => ?_)
                · have h := ht c9
                  refine lv_iinc (v := (x4 + 1)) (lv' := [(4, .int (x4 + 1)), (0, .ref h_t), (1, .int x1), (2, .int x2), (3, .int x3), (5, .int x5)]) hx hb dX11_times_119 hl (k := 4) rfl rfl (by decide) rfl (fun ls hl => ?_)
                  refine lv_goto (tgt := 48) hx hb dX11_times_122 (by decide) ?_
                  exact rec48 (x4 + 1) t_made H locs ls h hP hD hS (lv_sub hl [1, 2, 3, 4, 0] rfl)
                · have h := hf c9
                  refine lv_aload_n hx hb dX11_times_63 rfl (lv_at hl 0 rfl) ?_
                  refine va_get (D := G) (ci := 10) (v := .ref (B_t 17)) (C := RX11) (T := TX11) (N := 29) hx hb hts inX11 hown hK hP 0 rfl rfl 17 (by decide) hf58 (fun _ h9 => h9) rfl dX11_times_64 ?_
                  refine lv_bipush (v := 8) hx hb dX11_times_67 (by decide) ?_
                  refine lv_iload hx hb dX11_times_69 (lv_at hl 4 rfl) ?_
                  refine lv_imul hx hb dX11_times_71 ?_
                  refine lv_iload hx hb dX11_times_72 (lv_at hl 5 rfl) ?_
                  refine lv_iadd hx hb dX11_times_74 ?_
                  refine lv_iload_n hx hb dX11_times_75 rfl (lv_at hl 2 rfl) ?_
                  refine lv_aload_n hx hb dX11_times_76 rfl (lv_at hl 0 rfl) ?_
                  refine lv_iload hx hb dX11_times_77 (lv_at hl 4 rfl) ?_
                  refine lv_iload_n hx hb dX11_times_79 rfl (lv_at hl 2 rfl) ?_
                  obtain ⟨hne, h⟩ := h
                  refine lv_idiv hx hb dX11_times_80 hne ?_
                  refine lv_iload hx hb dX11_times_81 (lv_at hl 5 rfl) ?_
                  refine lv_iload_n hx hb dX11_times_83 rfl (lv_at hl 2 rfl) ?_
                  obtain ⟨hne, h⟩ := h
                  refine lv_idiv hx hb dX11_times_84 hne ?_
                  refine mc_iV ⟨hx, hb, hml, hown, hts⟩ hK hE hA hP hD hS (c_X11_by l G Y tF H.size h_t B_t t_thrown t_n t_modulus t_rows t_strands t_letters t_listedMany t_listN t_listWhat t_table (x4 / x2) (x5 / x2) h) (cwV 2 hts gX11_times_X11_by rfl rfl rfl (by decide +kernel) ⟨Nat.le_trans (by decide) hRf, Nat.le_trans (by decide) hRl⟩) (fun u => (w_X11_times Y h_t B_t t_thrown t_n t_modulus t_rows t_strands t_letters t_listedMany t_listN t_listWhat t_kept t_keptMany t_made t_table t_twists)) [0, 4] [1, 2, 3, 5] [4, 0, 1, 2, 5, 3] rfl rfl rfl rfl (by decide) (fun _ => rfl) rfl 0 10 rfl rfl rfl rfl hl.1 rfl (Nat.le_of_ble_eq_true rfl) dX11_times_85 (fun r85 u H locs h hP hD hS => ?_)
                  try dsimp only at h
                  have hP : va_P G vwCl (w_X11_times Y h_t B_t t_thrown t_n t_modulus t_rows t_strands t_letters t_listedMany t_listN t_listWhat t_kept t_keptMany t_made t_table t_twists) H := hP
                  have hD : va_D A (w_X11_times Y h_t B_t t_thrown t_n t_modulus t_rows t_strands t_letters t_listedMany t_listN t_listWhat t_kept t_keptMany t_made t_table t_twists) := hD
                  refine lv_imul hx hb dX11_times_88 ?_
                  refine lv_aload_n hx hb dX11_times_89 rfl (lv_at hl 0 rfl) ?_
                  refine va_get (D := G) (ci := 10) (v := .ref (B_t 10)) (C := RX11) (T := TX11) (N := 29) hx hb hts inX11 hown hK hP 0 rfl rfl 10 (by decide) hf38 (fun _ h9 => h9) rfl dX11_times_90 ?_
                  refine lv_bipush (v := 64) hx hb dX11_times_93 (by decide) ?_
                  refine lv_iload_n hx hb dX11_times_95 rfl (lv_at hl 1 rfl) ?_
                  refine lv_imul hx hb dX11_times_96 ?_
                  refine lv_bipush (v := 8) hx hb dX11_times_97 (by decide) ?_
                  refine lv_iload hx hb dX11_times_99 (lv_at hl 4 rfl) ?_
                  refine lv_iload_n hx hb dX11_times_101 rfl (lv_at hl 2 rfl) ?_
                  obtain ⟨hne, h⟩ := h
                  refine lv_irem hx hb dX11_times_102 hne ?_
                  refine lv_imul hx hb dX11_times_103 ?_
                  refine lv_iadd hx hb dX11_times_104 ?_
                  refine lv_iload hx hb dX11_times_105 (lv_at hl 5 rfl) ?_
                  refine lv_iload_n hx hb dX11_times_107 rfl (lv_at hl 2 rfl) ?_
                  obtain ⟨hne, h⟩ := h
                  refine lv_irem hx hb dX11_times_108 hne ?_
                  refine lv_iadd hx hb dX11_times_109 ?_
                  obtain ⟨hin, h⟩ := h
                  refine va_iald hx hb hK hP 1 0 rfl rfl hin dX11_times_110 ?_
                  refine lv_iadd hx hb dX11_times_111 ?_
                  obtain ⟨hin, h⟩ := h
                  refine va_iast hx hb hK hP hD hS 3 0 rfl rfl hin dX11_times_112 (fun H locs hP hD hS => ?_)
                  have hP : va_P G vwCl (w_X11_times Y h_t B_t t_thrown t_n t_modulus t_rows t_strands t_letters t_listedMany t_listN t_listWhat t_kept t_keptMany (upd t_made (Int32.toNatClampNeg (((8 : Int32) * x4) + x5)) ((x2 * r85) + (t_kept (Int32.toNatClampNeg ((((64 : Int32) * x1) + ((8 : Int32) * (x4 - x4 / x2 * x2))) + (x5 - x5 / x2 * x2)))))) t_table t_twists) H := hP
                  have hD : va_D A (w_X11_times Y h_t B_t t_thrown t_n t_modulus t_rows t_strands t_letters t_listedMany t_listN t_listWhat t_kept t_keptMany (upd t_made (Int32.toNatClampNeg (((8 : Int32) * x4) + x5)) ((x2 * r85) + (t_kept (Int32.toNatClampNeg ((((64 : Int32) * x1) + ((8 : Int32) * (x4 - x4 / x2 * x2))) + (x5 - x5 / x2 * x2)))))) t_table t_twists) := hD
                  refine lv_iinc (v := (x5 + 1)) (lv' := [(5, .int (x5 + 1)), (0, .ref h_t), (1, .int x1), (2, .int x2), (3, .int x3), (4, .int x4)]) hx hb dX11_times_113 hl (k := 5) rfl rfl (by decide) rfl (fun ls hl => ?_)
                  refine lv_goto (tgt := 57) hx hb dX11_times_116 (by decide) ?_
                  exact rec57 (x5 + 1) (upd t_made (Int32.toNatClampNeg (((8 : Int32) * x4) + x5)) ((x2 * r85) + (t_kept (Int32.toNatClampNeg ((((64 : Int32) * x1) + ((8 : Int32) * (x4 - x4 / x2 * x2))) + (x5 - x5 / x2 * x2)))))) H locs ls h hP hD hS (lv_sub hl [1, 2, 3, 4, 5, 0] rfl)
            exact L57 x4 I57 m57 hB57 _ (0 : Int32) t_made H locs ls hI57 (Nat.lt_succ_self _) hP hD hS (lv_sub hl [1, 2, 3, 4, 5, 0] rfl)
      exact L48 x1 (t_keptMany (Int32.toNatClampNeg x1)) (t_n * (t_keptMany (Int32.toNatClampNeg x1))) (0 : Int32) t_n t_table t_twists I48 m48 hB48 _ (0 : Int32) t_made H locs ls hI48 (Nat.lt_succ_self _) hP hD hS (lv_sub hl [3, 4, 2, 1, 0] rfl)
    · have h := hf c9
      refine lv_iconst (v := -1) hx hb dX11_times_29 (by decide) ?_
      exact hret (-1 : Int32) (0 : Int32) t_n t_made t_table t_twists H locs ls _ hP hD hS h dX11_times_30

set_option maxHeartbeats 20000000 in
set_option maxRecDepth 100000 in
theorem c_X11_times (l : Launch) (G : va_G) (Y : Nat → ClassId) (tF sz : Nat) (h_t : Nat) (B_t : Nat → Nat) (t_thrown : Int32) (t_n : Int32) (t_modulus : Int32) (t_rows : Int32) (t_strands : Int32) (t_letters : Int32) (t_listedMany : Int32) (t_listN : Int32) (t_listWhat : Int32) (t_kept : Nat → Int32) (t_keptMany : Nat → Int32) (t_made : Nat → Int32) (t_table : Nat → Int32) (t_twists : Nat → Int32) (x1 : Int32) {K : Int32 → Int32 → Int32 → (Nat → Int32) → (Nat → Int32) → (Nat → Int32) → Prop} (h : pX11_times t_thrown t_n t_kept t_keptMany t_made t_table t_twists x1 K) : Met l yX11_times wsX11_times ({ frames := 2, cells := 0, slots := 0, locals := 46 }) (PcM G Y tF sz (w_X11_times Y h_t B_t t_thrown t_n t_modulus t_rows t_strands t_letters t_listedMany t_listN t_listWhat t_kept t_keptMany t_made t_table t_twists) [.ref h_t, .int x1]) (va_Qi (fun (r : Int32) (u : Int32 × Int32 × (Nat → Int32) × (Nat → Int32) × (Nat → Int32)) => K r u.1 u.2.1 u.2.2.1 u.2.2.2.1 u.2.2.2.2) (fun u t => BM G Y (va_A (w_X11_times Y h_t B_t t_thrown t_n t_modulus t_rows t_strands t_letters t_listedMany t_listN t_listWhat t_kept t_keptMany t_made t_table t_twists) sz) (w_X11_times Y h_t B_t u.1 u.2.1 t_modulus t_rows t_strands t_letters t_listedMany t_listN t_listWhat t_kept t_keptMany u.2.2.1 u.2.2.2.1 u.2.2.2.2) t) (va_A (w_X11_times Y h_t B_t t_thrown t_n t_modulus t_rows t_strands t_letters t_listedMany t_listN t_listWhat t_kept t_keptMany t_made t_table t_twists) sz)) 0 0 (va_A (w_X11_times Y h_t B_t t_thrown t_n t_modulus t_rows t_strands t_letters t_listedMany t_listN t_listWhat t_kept t_keptMany t_made t_table t_twists) sz) := by
  refine Met.ofW (cc := cX11_times) (maxL := 6) (ret := (some .int)) (by decide +kernel) rfl ?_
  intro p e s m args below meth c s₁ B hml hv
  obtain ⟨rfl, hsz, hP, hK, hD0, hE⟩ := hv
  have hts := atoms_spec (ws := wsX11_times) B.pre
  have hown : s.vm.findClass RX11 = some m.cls := findClass_of_methodNamed B.named
  have hlocks := B.notSynchronized
  subst hsz
  have hD := hD0.self (sz := s.heap.size)
  exact wk_X11_times h_t B_t t_thrown t_n t_modulus t_rows t_strands t_letters t_listedMany t_listN t_listWhat t_kept t_keptMany t_made t_table t_twists x1 B.exec B.bytes hml hown hts hK hE (fun q h => Or.inr h) (Nat.le_refl _) (Nat.le_refl _) (fun r t_thrown t_n t_made t_table t_twists H locs ls pc hP hD hS hk hd => W.iret (v := r) B.exec B.bytes B.returns (fun t ht hW => ⟨⟨r, (t_thrown, t_n, t_made, t_table, t_twists), rfl, hk, by rw [ht]; exact hP, va_K.moved hW.alike hK, hD⟩, hS.F ht⟩) hS.2.2 hd) hP hD h

abbrev w_X11_melts (Y : Nat → ClassId) (h_t : Nat) (B_t : Nat → Nat) (t_thrown : Int32) (t_n : Int32) (t_modulus : Int32) (t_rows : Int32) (t_strands : Int32) (t_letters : Int32) (t_listedMany : Int32) (t_listN : Int32) (t_listWhat : Int32) (t_part : Nat → Int32) : va_W := [(h_t, .inr (10, [.int t_thrown, .int t_n, .ref (B_t 2), .int t_modulus, .ref (B_t 4), .ref (B_t 5), .ref (B_t 6), .ref (B_t 7), .ref (B_t 8), .ref (B_t 9), .ref (B_t 10), .int t_rows, .ref (B_t 12), .ref (B_t 13), .ref (B_t 14), .ref (B_t 15), .ref (B_t 16), .ref (B_t 17), .ref (B_t 18), .ref (B_t 19), .int t_strands, .int t_letters, .ref (B_t 22), .ref (B_t 23), .ref (B_t 24), .ref (B_t 25), .int t_listedMany, .int t_listN, .int t_listWhat])), ((B_t 18), .inl (Y 0, 8, .inl t_part))]

set_option maxHeartbeats 20000000 in
set_option maxRecDepth 100000 in
theorem wk_X11_melts {p : Program} {l : Launch} {e : Env} {R : Room} {s : State} {m : MethodId} {args : Array Value} {below : List Frame} {meth : Method} {c : Code} {Q : State → Prop} {G : va_G} {Y : Nat → ClassId} {tF : Nat} {A : Nat → Prop} (h_t : Nat) (B_t : Nat → Nat) (t_thrown : Int32) (t_n : Int32) (t_modulus : Int32) (t_rows : Int32) (t_strands : Int32) (t_letters : Int32) (t_listedMany : Int32) (t_listN : Int32) (t_listWhat : Int32) (t_part : Nat → Int32) (x1 : Int32) (x2 : Int32) {K : Int32 → (Nat → Int32) → Prop} (hx : p.tables.exec = Jvm.exec) (hb : c.code = cX11_melts) (hml : c.maxLocals = 6) (hown : s.vm.findClass RX11 = some m.cls) (hts : ∀ w ∈ wsX11_melts, w.before args s = true) (hK : va_K G vwCl (tyL Y) s) (hE : Ev A tF s) (hA : ∀ q, s.heap.size ≤ q → A q) (hRf : 1 ≤ R.frames) (hRl : 24 ≤ R.locals) (hret : ∀ (r : Int32) (t_part : Nat → Int32) (H : Heap) (locs : List Loc) (ls : Array Slot) (pc : Nat), va_P G vwCl (w_X11_melts Y h_t B_t t_thrown t_n t_modulus t_rows t_strands t_letters t_listedMany t_listN t_listWhat t_part) H → va_D A (w_X11_melts Y h_t B_t t_thrown t_n t_modulus t_rows t_strands t_letters t_listedMany t_listN t_listWhat t_part) → va_S A s.heap H locs → zb r → K r t_part → decode cX11_melts pc = .ok (.ireturn, 1) → W p l e R s m args below meth c H locs 0 0 Q (F0 m pc ls [.int r])) (hP : va_P G vwCl (w_X11_melts Y h_t B_t t_thrown t_n t_modulus t_rows t_strands t_letters t_listedMany t_listN t_listWhat t_part) s.heap) (hD : va_D A (w_X11_melts Y h_t B_t t_thrown t_n t_modulus t_rows t_strands t_letters t_listedMany t_listN t_listWhat t_part)) (h : pX11_melts t_n t_part x1 x2 K) : W p l e R s m args below meth c s.heap [] 0 0 Q (entryFrame m ([.ref h_t, .int x1, .int x2] : List Value).toArray 6) := by
  have inX11 : ∀ w ∈ u_ws RX11 TX11 29, w ∈ wsX11_melts := by decide +kernel
  have hf61 := hts (.fieldLink RX11 61 "RackBenchModel" "part" "[I") (by decide +kernel)
  have hf9 := hts (.fieldLink RX11 9 "RackBenchModel" "n" "I") (by decide +kernel)
  have hl := lv_entry ([.ref h_t, .int x1, .int x2]) (n := 6) (Nat.le_of_ble_eq_true rfl)
  rw [lg_entry_eq]
  generalize (lg_sl ([.ref h_t, .int x1, .int x2]) ++ List.replicate (6 - (lg_sl ([.ref h_t, .int x1, .int x2])).length) Slot.unset).toArray = ls at hl ⊢
  have hl : lv_has ls 6 [(0, .ref h_t), (1, .int x1), (2, .int x2)] := hl
  generalize hH0 : s.heap = H at hP ⊢
  have hS : va_S A s.heap H [] := by rw [← hH0]; exact va_S.rf
  clear hH0
  generalize ([] : List Loc) = locs at hS ⊢
  refine lv_aload_n hx hb dX11_melts_0 rfl (lv_at hl 0 rfl) ?_
  refine va_get (D := G) (ci := 10) (v := .ref (B_t 18)) (C := RX11) (T := TX11) (N := 29) hx hb hts inX11 hown hK hP 0 rfl rfl 18 (by decide) hf61 (fun _ h9 => h9) rfl dX11_melts_1 ?_
  refine lv_iload_n hx hb dX11_melts_4 rfl (lv_at hl 1 rfl) ?_
  obtain ⟨hin, h⟩ := h
  refine va_iald hx hb hK hP 1 0 rfl rfl hin dX11_melts_5 ?_
  refine lv_aload_n hx hb dX11_melts_6 rfl (lv_at hl 0 rfl) ?_
  refine va_get (D := G) (ci := 10) (v := .ref (B_t 18)) (C := RX11) (T := TX11) (N := 29) hx hb hts inX11 hown hK hP 0 rfl rfl 18 (by decide) hf61 (fun _ h9 => h9) rfl dX11_melts_7 ?_
  refine lv_iload_n hx hb dX11_melts_10 rfl (lv_at hl 2 rfl) ?_
  obtain ⟨hin, h⟩ := h
  refine va_iald hx hb hK hP 1 0 rfl rfl hin dX11_melts_11 ?_
  refine va_mmin hx hb (by rw [hml]; exact hl.1.symm) hown (hts (.methodLink RX11 156 Lib.Math.min.name) (by decide +kernel)) (hts (.static Lib.Math.min.name) (by decide +kernel)) (hts (.initialized "java/lang/Math") (by decide +kernel)) (hts (.code Lib.Math.min.name Lib.Math.min.code 2 (some .int)) (by decide +kernel)) (Nat.le_trans (by decide) hRf) (Nat.le_trans (by decide) hRl) (Nat.zero_le _) (Nat.zero_le _) dX11_melts_12 ?_
  refine lv_istore_n (lv' := [(3, .int (if (t_part (Int32.toNatClampNeg x2)) < (t_part (Int32.toNatClampNeg x1)) then (t_part (Int32.toNatClampNeg x2)) else (t_part (Int32.toNatClampNeg x1)))), (0, .ref h_t), (1, .int x1), (2, .int x2)]) hx hb dX11_melts_15 rfl hl (by decide) rfl (fun ls hl => ?_)
  refine lv_aload_n hx hb dX11_melts_16 rfl (lv_at hl 1 rfl) ?_
  refine va_get (D := G) (ci := 10) (v := .ref (B_t 18)) (C := RX11) (T := TX11) (N := 29) hx hb hts inX11 hown hK hP 0 rfl rfl 18 (by decide) hf61 (fun _ h9 => h9) rfl dX11_melts_17 ?_
  refine lv_iload_n hx hb dX11_melts_20 rfl (lv_at hl 2 rfl) ?_
  obtain ⟨hin, h⟩ := h
  refine va_iald hx hb hK hP 1 0 rfl rfl hin dX11_melts_21 ?_
  refine lv_aload_n hx hb dX11_melts_22 rfl (lv_at hl 1 rfl) ?_
  refine va_get (D := G) (ci := 10) (v := .ref (B_t 18)) (C := RX11) (T := TX11) (N := 29) hx hb hts inX11 hown hK hP 0 rfl rfl 18 (by decide) hf61 (fun _ h9 => h9) rfl dX11_melts_23 ?_
  refine lv_iload_n hx hb dX11_melts_26 rfl (lv_at hl 3 rfl) ?_
  obtain ⟨hin, h⟩ := h
  refine va_iald hx hb hK hP 1 0 rfl rfl hin dX11_melts_27 ?_
  refine va_mmax hx hb (by rw [hml]; exact hl.1.symm) hown (hts (.methodLink RX11 192 Lib.Math.max.name) (by decide +kernel)) (hts (.static Lib.Math.max.name) (by decide +kernel)) (hts (.initialized "java/lang/Math") (by decide +kernel)) (hts (.code Lib.Math.max.name Lib.Math.max.code 2 (some .int)) (by decide +kernel)) (Nat.le_trans (by decide) hRf) (Nat.le_trans (by decide) hRl) (Nat.zero_le _) (Nat.zero_le _) dX11_melts_28 ?_
  refine lv_istore (lv' := [(4, .int (if (t_part (Int32.toNatClampNeg x1)) < (t_part (Int32.toNatClampNeg x2)) then (t_part (Int32.toNatClampNeg x2)) else (t_part (Int32.toNatClampNeg x1)))), (3, .int (if (t_part (Int32.toNatClampNeg x2)) < (t_part (Int32.toNatClampNeg x1)) then (t_part (Int32.toNatClampNeg x2)) else (t_part (Int32.toNatClampNeg x1)))), (0, .ref h_t), (1, .int x1), (2, .int x2)]) hx hb dX11_melts_31 hl (by decide) rfl (fun ls hl => ?_)
  refine lv_iconst (v := 0) hx hb dX11_melts_33 (by decide) ?_
  refine lv_istore (lv' := [(5, .int (0 : Int32)), (4, .int (if (t_part (Int32.toNatClampNeg x1)) < (t_part (Int32.toNatClampNeg x2)) then (t_part (Int32.toNatClampNeg x2)) else (t_part (Int32.toNatClampNeg x1)))), (3, .int (if (t_part (Int32.toNatClampNeg x2)) < (t_part (Int32.toNatClampNeg x1)) then (t_part (Int32.toNatClampNeg x2)) else (t_part (Int32.toNatClampNeg x1)))), (0, .ref h_t), (1, .int x1), (2, .int x2)]) hx hb dX11_melts_34 hl (by decide) rfl (fun ls hl => ?_)
  obtain ⟨I36, m36, hI36, hB36⟩ := h
  have L36 : ∀ (x3 : Int32) (x4 : Int32) (I36 : Int32 → (Nat → Int32) → Prop) (m36 : Int32 → (Nat → Int32) → Nat), (∀ (x5 : Int32) (t_part : Nat → Int32), I36 x5 t_part → pX11_melts_36 t_n K x3 x4 x5 t_part (fun x5' t_part' => I36 x5' t_part' ∧ m36 x5' t_part' < m36 x5 t_part)) → ∀ (n : Nat) (x5 : Int32) (t_part : Nat → Int32) (H : Heap) (locs : List Loc) (ls : Array Slot), I36 x5 t_part → m36 x5 t_part < n → va_P G vwCl (w_X11_melts Y h_t B_t t_thrown t_n t_modulus t_rows t_strands t_letters t_listedMany t_listN t_listWhat t_part) H → va_D A (w_X11_melts Y h_t B_t t_thrown t_n t_modulus t_rows t_strands t_letters t_listedMany t_listN t_listWhat t_part) → va_S A s.heap H locs → lv_has ls 6 [(0, .ref h_t), (3, .int x3), (4, .int x4), (5, .int x5)] → W p l e R s m args below meth c H locs 0 0 Q (F0 m 36 ls []) := by
    intro x3 x4 I36 m36 hB36 n
    induction n with
    | zero => intro x5 t_part H locs ls _ hm; exact absurd hm (Nat.not_lt_zero _)
    | succ n ih =>
      intro x5 t_part H locs ls hI hm hP hD hS hl
      obtain ⟨R36, h, rec36⟩ : ∃ R36 : Int32 → (Nat → Int32) → Prop, pX11_melts_36 t_n K x3 x4 x5 t_part R36 ∧ ∀ (x5 : Int32) (t_part : Nat → Int32) (H : Heap) (locs : List Loc) (ls : Array Slot), R36 x5 t_part → va_P G vwCl (w_X11_melts Y h_t B_t t_thrown t_n t_modulus t_rows t_strands t_letters t_listedMany t_listN t_listWhat t_part) H → va_D A (w_X11_melts Y h_t B_t t_thrown t_n t_modulus t_rows t_strands t_letters t_listedMany t_listN t_listWhat t_part) → va_S A s.heap H locs → lv_has ls 6 [(0, .ref h_t), (3, .int x3), (4, .int x4), (5, .int x5)] → W p l e R s m args below meth c H locs 0 0 Q (F0 m 36 ls []) := ⟨_, hB36 x5 t_part hI, fun x5 t_part H locs ls hh hP hD hS hl => ih x5 t_part H locs ls hh.1 (Nat.lt_of_lt_of_le hh.2 (Nat.le_of_lt_succ hm)) hP hD hS hl⟩
      have J74 : ∀ (x5 : Int32) (s1 : Int32) (s2 : Int32) (t_part : Nat → Int32) (H : Heap) (locs : List Loc) (ls : Array Slot), pX11_melts_74 t_n R36 K x3 x4 x5 s1 s2 t_part → va_P G vwCl (w_X11_melts Y h_t B_t t_thrown t_n t_modulus t_rows t_strands t_letters t_listedMany t_listN t_listWhat t_part) H → va_D A (w_X11_melts Y h_t B_t t_thrown t_n t_modulus t_rows t_strands t_letters t_listedMany t_listN t_listWhat t_part) → va_S A s.heap H locs → lv_has ls 6 [(0, .ref h_t), (3, .int x3), (4, .int x4), (5, .int x5)] → W p l e R s m args below meth c H locs 0 0 Q (F0 m 74 ls [.int s2, .int s1, .ref (B_t 18)]) := by
        intro x5 s1 s2 t_part H locs ls h hP hD hS hl
        obtain ⟨hin, h⟩ := h
        refine va_iast hx hb hK hP hD hS 1 0 rfl rfl hin dX11_melts_74 (fun H locs hP hD hS => ?_)
        have hP : va_P G vwCl (w_X11_melts Y h_t B_t t_thrown t_n t_modulus t_rows t_strands t_letters t_listedMany t_listN t_listWhat (upd t_part (Int32.toNatClampNeg s1) s2)) H := hP
        have hD : va_D A (w_X11_melts Y h_t B_t t_thrown t_n t_modulus t_rows t_strands t_letters t_listedMany t_listN t_listWhat (upd t_part (Int32.toNatClampNeg s1) s2)) := hD
        refine lv_iinc (v := (x5 + 1)) (lv' := [(5, .int (x5 + 1)), (0, .ref h_t), (3, .int x3), (4, .int x4)]) hx hb dX11_melts_75 hl (k := 3) rfl rfl (by decide) rfl (fun ls hl => ?_)
        refine lv_goto (tgt := 36) hx hb dX11_melts_78 (by decide) ?_
        exact rec36 (x5 + 1) (upd t_part (Int32.toNatClampNeg s1) s2) H locs ls h hP hD hS (lv_sub hl [1, 2, 3, 0] rfl)
      refine lv_iload hx hb dX11_melts_36 (lv_at hl 3 rfl) ?_
      refine lv_aload_n hx hb dX11_melts_38 rfl (lv_at hl 0 rfl) ?_
      refine va_get (D := G) (ci := 10) (v := .int t_n) (C := RX11) (T := TX11) (N := 29) hx hb hts inX11 hown hK hP 0 rfl rfl 1 (by decide) hf9 (fun _ h9 => h9) rfl dX11_melts_39 ?_
      obtain ⟨ht, hf⟩ := h
      refine lv_icmp_ge (tgt := 81) hx hb dX11_melts_42 (by decide) (fun c9 => ?_) (fun c9 => ?_)
      · have h := ht c9
        refine lv_iload_n hx hb dX11_melts_81 rfl (lv_at hl 1 rfl) ?_
        refine lv_iload hx hb dX11_melts_82 (lv_at hl 2 rfl) ?_
        obtain ⟨ht, hf⟩ := h
        refine lv_icmp_eq (tgt := 91) hx hb dX11_melts_84 (by decide) (fun c9 => ?_) (fun c9 => ?_)
        · have h := ht c9
          refine lv_iconst (v := 0) hx hb dX11_melts_91 (by decide) ?_
          obtain ⟨hz, h⟩ := h
          exact hret (0 : Int32) t_part H locs ls _ hP hD hS hz h dX11_melts_92
        · have h := hf c9
          refine lv_iconst (v := 1) hx hb dX11_melts_87 (by decide) ?_
          refine lv_goto (tgt := 92) hx hb dX11_melts_88 (by decide) ?_
          obtain ⟨hz, h⟩ := h
          exact hret (1 : Int32) t_part H locs ls _ hP hD hS hz h dX11_melts_92
      · have h := hf c9
        refine lv_aload_n hx hb dX11_melts_45 rfl (lv_at hl 0 rfl) ?_
        refine va_get (D := G) (ci := 10) (v := .ref (B_t 18)) (C := RX11) (T := TX11) (N := 29) hx hb hts inX11 hown hK hP 0 rfl rfl 18 (by decide) hf61 (fun _ h9 => h9) rfl dX11_melts_46 ?_
        refine lv_iload hx hb dX11_melts_49 (lv_at hl 3 rfl) ?_
        refine lv_aload_n hx hb dX11_melts_51 rfl (lv_at hl 0 rfl) ?_
        refine va_get (D := G) (ci := 10) (v := .ref (B_t 18)) (C := RX11) (T := TX11) (N := 29) hx hb hts inX11 hown hK hP 0 rfl rfl 18 (by decide) hf61 (fun _ h9 => h9) rfl dX11_melts_52 ?_
        refine lv_iload hx hb dX11_melts_55 (lv_at hl 3 rfl) ?_
        obtain ⟨hin, h⟩ := h
        refine va_iald hx hb hK hP 1 0 rfl rfl hin dX11_melts_57 ?_
        refine lv_iload hx hb dX11_melts_58 (lv_at hl 2 rfl) ?_
        obtain ⟨ht, hf⟩ := h
        refine lv_icmp_ne (tgt := 67) hx hb dX11_melts_60 (by decide) (fun c9 => ?_) (fun c9 => ?_)
        · have h := ht c9
          refine lv_aload_n hx hb dX11_melts_67 rfl (lv_at hl 0 rfl) ?_
          refine va_get (D := G) (ci := 10) (v := .ref (B_t 18)) (C := RX11) (T := TX11) (N := 29) hx hb hts inX11 hown hK hP 0 rfl rfl 18 (by decide) hf61 (fun _ h9 => h9) rfl dX11_melts_68 ?_
          refine lv_iload hx hb dX11_melts_71 (lv_at hl 3 rfl) ?_
          obtain ⟨hin, h⟩ := h
          refine va_iald hx hb hK hP 1 0 rfl rfl hin dX11_melts_73 ?_
          exact J74 x5 x5 (t_part (Int32.toNatClampNeg x5)) t_part H locs ls h hP hD hS (lv_sub hl [0, 1, 2, 3] rfl)
        · have h := hf c9
          refine lv_iload_n hx hb dX11_melts_63 rfl (lv_at hl 1 rfl) ?_
          refine lv_goto (tgt := 74) hx hb dX11_melts_64 (by decide) ?_
          exact J74 x5 x5 x3 t_part H locs ls h hP hD hS (lv_sub hl [0, 1, 2, 3] rfl)
  exact L36 (if (t_part (Int32.toNatClampNeg x2)) < (t_part (Int32.toNatClampNeg x1)) then (t_part (Int32.toNatClampNeg x2)) else (t_part (Int32.toNatClampNeg x1))) (if (t_part (Int32.toNatClampNeg x1)) < (t_part (Int32.toNatClampNeg x2)) then (t_part (Int32.toNatClampNeg x2)) else (t_part (Int32.toNatClampNeg x1))) I36 m36 hB36 _ (0 : Int32) t_part H locs ls hI36 (Nat.lt_succ_self _) hP hD hS (lv_sub hl [3, 2, 1, 0] rfl)

set_option maxHeartbeats 20000000 in
set_option maxRecDepth 100000 in
theorem c_X11_melts (l : Launch) (G : va_G) (Y : Nat → ClassId) (tF sz : Nat) (h_t : Nat) (B_t : Nat → Nat) (t_thrown : Int32) (t_n : Int32) (t_modulus : Int32) (t_rows : Int32) (t_strands : Int32) (t_letters : Int32) (t_listedMany : Int32) (t_listN : Int32) (t_listWhat : Int32) (t_part : Nat → Int32) (x1 : Int32) (x2 : Int32) {K : Int32 → (Nat → Int32) → Prop} (h : pX11_melts t_n t_part x1 x2 K) : Met l yX11_melts wsX11_melts ({ frames := 1, cells := 0, slots := 0, locals := 24 }) (PcM G Y tF sz (w_X11_melts Y h_t B_t t_thrown t_n t_modulus t_rows t_strands t_letters t_listedMany t_listN t_listWhat t_part) [.ref h_t, .int x1, .int x2]) (va_Qi (fun (r : Int32) (u : (Nat → Int32)) => K r u) (fun u t => BM G Y (va_A (w_X11_melts Y h_t B_t t_thrown t_n t_modulus t_rows t_strands t_letters t_listedMany t_listN t_listWhat t_part) sz) (w_X11_melts Y h_t B_t t_thrown t_n t_modulus t_rows t_strands t_letters t_listedMany t_listN t_listWhat u) t) (va_A (w_X11_melts Y h_t B_t t_thrown t_n t_modulus t_rows t_strands t_letters t_listedMany t_listN t_listWhat t_part) sz)) 0 0 (va_A (w_X11_melts Y h_t B_t t_thrown t_n t_modulus t_rows t_strands t_letters t_listedMany t_listN t_listWhat t_part) sz) := by
  refine Met.ofW (cc := cX11_melts) (maxL := 6) (ret := (some .boolean)) (by decide +kernel) rfl ?_
  intro p e s m args below meth c s₁ B hml hv
  obtain ⟨rfl, hsz, hP, hK, hD0, hE⟩ := hv
  have hts := atoms_spec (ws := wsX11_melts) B.pre
  have hown : s.vm.findClass RX11 = some m.cls := findClass_of_methodNamed B.named
  have hlocks := B.notSynchronized
  subst hsz
  have hD := hD0.self (sz := s.heap.size)
  exact wk_X11_melts h_t B_t t_thrown t_n t_modulus t_rows t_strands t_letters t_listedMany t_listN t_listWhat t_part x1 x2 B.exec B.bytes hml hown hts hK hE (fun q h => Or.inr h) (Nat.le_refl _) (Nat.le_refl _) (fun r t_part H locs ls pc hP hD hS hz hk hd => W.zret (v := r) B.exec B.bytes B.returns hz.n (fun t ht hW => ⟨⟨r, t_part, rfl, hk, by rw [ht]; exact hP, va_K.moved hW.alike hK, hD⟩, hS.F ht⟩) hS.2.2 hd) hP hD h

abbrev w_X11_part (Y : Nat → ClassId) (h_t : Nat) (B_t : Nat → Nat) (t_thrown : Int32) (t_n : Int32) (t_modulus : Int32) (t_rows : Int32) (t_strands : Int32) (t_letters : Int32) (t_listedMany : Int32) (t_listN : Int32) (t_listWhat : Int32) (t_h : Nat → Int32) (t_made : Nat → Int32) (t_part : Nat → Int32) (t_table : Nat → Int32) (t_twists : Nat → Int32) : va_W := [(h_t, .inr (10, [.int t_thrown, .int t_n, .ref (B_t 2), .int t_modulus, .ref (B_t 4), .ref (B_t 5), .ref (B_t 6), .ref (B_t 7), .ref (B_t 8), .ref (B_t 9), .ref (B_t 10), .int t_rows, .ref (B_t 12), .ref (B_t 13), .ref (B_t 14), .ref (B_t 15), .ref (B_t 16), .ref (B_t 17), .ref (B_t 18), .ref (B_t 19), .int t_strands, .int t_letters, .ref (B_t 22), .ref (B_t 23), .ref (B_t 24), .ref (B_t 25), .int t_listedMany, .int t_listN, .int t_listWhat])), ((B_t 7), .inl (Y 0, 8, .inl t_h)), ((B_t 17), .inl (Y 0, 64, .inl t_made)), ((B_t 18), .inl (Y 0, 8, .inl t_part)), ((B_t 2), .inl (Y 0, 64, .inl t_table)), ((B_t 4), .inl (Y 0, 64, .inl t_twists))]

set_option maxHeartbeats 20000000 in
set_option maxRecDepth 100000 in
theorem wk_X11_part {p : Program} {l : Launch} {e : Env} {R : Room} {s : State} {m : MethodId} {args : Array Value} {below : List Frame} {meth : Method} {c : Code} {Q : State → Prop} {G : va_G} {Y : Nat → ClassId} {tF : Nat} {A : Nat → Prop} (h_t : Nat) (B_t : Nat → Nat) (t_thrown : Int32) (t_n : Int32) (t_modulus : Int32) (t_rows : Int32) (t_strands : Int32) (t_letters : Int32) (t_listedMany : Int32) (t_listN : Int32) (t_listWhat : Int32) (t_h : Nat → Int32) (t_made : Nat → Int32) (t_part : Nat → Int32) (t_table : Nat → Int32) (t_twists : Nat → Int32) (x1 : Int32) (x2 : Int32) {K : Int32 → Int32 → Int32 → (Nat → Int32) → (Nat → Int32) → (Nat → Int32) → (Nat → Int32) → (Nat → Int32) → Prop} (hx : p.tables.exec = Jvm.exec) (hb : c.code = cX11_part) (hml : c.maxLocals = 7) (hown : s.vm.findClass RX11 = some m.cls) (hts : ∀ w ∈ wsX11_part, w.before args s = true) (hK : va_K G vwCl (tyL Y) s) (hE : Ev A tF s) (hA : ∀ q, s.heap.size ≤ q → A q) (hRf : 3 ≤ R.frames) (hRl : 65 ≤ R.locals) (hret : ∀ (r : Int32) (t_thrown : Int32) (t_n : Int32) (t_h : Nat → Int32) (t_made : Nat → Int32) (t_part : Nat → Int32) (t_table : Nat → Int32) (t_twists : Nat → Int32) (H : Heap) (locs : List Loc) (ls : Array Slot) (pc : Nat), va_P G vwCl (w_X11_part Y h_t B_t t_thrown t_n t_modulus t_rows t_strands t_letters t_listedMany t_listN t_listWhat t_h t_made t_part t_table t_twists) H → va_D A (w_X11_part Y h_t B_t t_thrown t_n t_modulus t_rows t_strands t_letters t_listedMany t_listN t_listWhat t_h t_made t_part t_table t_twists) → va_S A s.heap H locs → K r t_thrown t_n t_h t_made t_part t_table t_twists → decode cX11_part pc = .ok (.ireturn, 1) → W p l e R s m args below meth c H locs 0 0 Q (F0 m pc ls [.int r])) (hP : va_P G vwCl (w_X11_part Y h_t B_t t_thrown t_n t_modulus t_rows t_strands t_letters t_listedMany t_listN t_listWhat t_h t_made t_part t_table t_twists) s.heap) (hD : va_D A (w_X11_part Y h_t B_t t_thrown t_n t_modulus t_rows t_strands t_letters t_listedMany t_listN t_listWhat t_h t_made t_part t_table t_twists)) (h : pX11_part t_thrown t_n t_h t_made t_part t_table t_twists x1 x2 K) : W p l e R s m args below meth c s.heap [] 0 0 Q (entryFrame m ([.ref h_t, .int x1, .int x2] : List Value).toArray 7) := by
  have inX11 : ∀ w ∈ u_ws RX11 TX11 29, w ∈ wsX11_part := by decide +kernel
  have hf58 := hts (.fieldLink RX11 58 "RackBenchModel" "made" "[I") (by decide +kernel)
  have hf61 := hts (.fieldLink RX11 61 "RackBenchModel" "part" "[I") (by decide +kernel)
  have hf83 := hts (.fieldLink RX11 83 "RackBenchModel" "thrown" "I") (by decide +kernel)
  have hf9 := hts (.fieldLink RX11 9 "RackBenchModel" "n" "I") (by decide +kernel)
  have hl := lv_entry ([.ref h_t, .int x1, .int x2]) (n := 7) (Nat.le_of_ble_eq_true rfl)
  rw [lg_entry_eq]
  generalize (lg_sl ([.ref h_t, .int x1, .int x2]) ++ List.replicate (7 - (lg_sl ([.ref h_t, .int x1, .int x2])).length) Slot.unset).toArray = ls at hl ⊢
  have hl : lv_has ls 7 [(0, .ref h_t), (1, .int x1), (2, .int x2)] := hl
  generalize hH0 : s.heap = H at hP ⊢
  have hS : va_S A s.heap H [] := by rw [← hH0]; exact va_S.rf
  clear hH0
  generalize ([] : List Loc) = locs at hS ⊢
  refine lv_aload_n hx hb dX11_part_0 rfl (lv_at hl 0 rfl) ?_
  refine lv_iconst (v := 0) hx hb dX11_part_1 (by decide) ?_
  refine va_put (D := G) (ci := 10) (v := .int (0 : Int32)) (ty := .int) (C := RX11) (T := TX11) (N := 29) hx hb hts inX11 tyX11 tyX11_ok nmX11 hown hK hP hD hS 0 rfl rfl 0 (by decide) hf83 (fun _ h9 => h9) rfl (by decide +kernel) rfl rfl (Nat.le_of_ble_eq_true rfl) dX11_part_2 (fun H locs hP hD hS => ?_)
  have hP : va_P G vwCl (w_X11_part Y h_t B_t (0 : Int32) t_n t_modulus t_rows t_strands t_letters t_listedMany t_listN t_listWhat t_h t_made t_part t_table t_twists) H := hP
  have hD : va_D A (w_X11_part Y h_t B_t (0 : Int32) t_n t_modulus t_rows t_strands t_letters t_listedMany t_listN t_listWhat t_h t_made t_part t_table t_twists) := hD
  refine lv_aload_n hx hb dX11_part_5 rfl (lv_at hl 0 rfl) ?_
  refine lv_iload_n hx hb dX11_part_6 rfl (lv_at hl 1 rfl) ?_
  refine mc_iV ⟨hx, hb, hml, hown, hts⟩ hK hE hA hP hD hS (c_X11_isThing l G Y tF H.size h_t B_t (0 : Int32) t_n t_modulus t_rows t_strands t_letters t_listedMany t_listN t_listWhat x1 h) (cwV 1 hts gX11_part_X11_isThing rfl rfl rfl (by decide +kernel) ⟨Nat.le_trans (by decide) hRf, Nat.le_trans (by decide) hRl⟩) (fun u => (w_X11_part Y h_t B_t (0 : Int32) t_n t_modulus t_rows t_strands t_letters t_listedMany t_listN t_listWhat t_h t_made t_part t_table t_twists)) [0] [1, 2, 3, 4, 5] [5, 0, 1, 2, 3, 4] rfl rfl rfl rfl (by decide) (fun _ => rfl) rfl 0 10 rfl rfl rfl rfl hl.1 rfl (Nat.le_of_ble_eq_true rfl) dX11_part_7 (fun r7 u H locs h hP hD hS => ?_)
  try dsimp only at h
  have hP : va_P G vwCl (w_X11_part Y h_t B_t (0 : Int32) t_n t_modulus t_rows t_strands t_letters t_listedMany t_listN t_listWhat t_h t_made t_part t_table t_twists) H := hP
  have hD : va_D A (w_X11_part Y h_t B_t (0 : Int32) t_n t_modulus t_rows t_strands t_letters t_listedMany t_listN t_listWhat t_h t_made t_part t_table t_twists) := hD
  obtain ⟨ht, hf⟩ := h
  refine lv_if_eq (tgt := 28) hx hb dX11_part_10 (by decide) (fun c9 => ?_) (fun c9 => ?_)
  · have h := ht c9
    refine lv_iconst (v := -1) hx hb dX11_part_28 (by decide) ?_
    exact hret (-1 : Int32) (0 : Int32) t_n t_h t_made t_part t_table t_twists H locs ls _ hP hD hS h dX11_part_29
  · have h := hf c9
    refine lv_aload_n hx hb dX11_part_13 rfl (lv_at hl 0 rfl) ?_
    refine lv_iload_n hx hb dX11_part_14 rfl (lv_at hl 2 rfl) ?_
    refine mc_iV ⟨hx, hb, hml, hown, hts⟩ hK hE hA hP hD hS (c_X11_isThing l G Y tF H.size h_t B_t (0 : Int32) t_n t_modulus t_rows t_strands t_letters t_listedMany t_listN t_listWhat x2 h) (cwV 1 hts gX11_part_X11_isThing rfl rfl rfl (by decide +kernel) ⟨Nat.le_trans (by decide) hRf, Nat.le_trans (by decide) hRl⟩) (fun u => (w_X11_part Y h_t B_t (0 : Int32) t_n t_modulus t_rows t_strands t_letters t_listedMany t_listN t_listWhat t_h t_made t_part t_table t_twists)) [0] [1, 2, 3, 4, 5] [5, 0, 1, 2, 3, 4] rfl rfl rfl rfl (by decide) (fun _ => rfl) rfl 0 10 rfl rfl rfl rfl hl.1 rfl (Nat.le_of_ble_eq_true rfl) dX11_part_15 (fun r15 u H locs h hP hD hS => ?_)
    try dsimp only at h
    have hP : va_P G vwCl (w_X11_part Y h_t B_t (0 : Int32) t_n t_modulus t_rows t_strands t_letters t_listedMany t_listN t_listWhat t_h t_made t_part t_table t_twists) H := hP
    have hD : va_D A (w_X11_part Y h_t B_t (0 : Int32) t_n t_modulus t_rows t_strands t_letters t_listedMany t_listN t_listWhat t_h t_made t_part t_table t_twists) := hD
    obtain ⟨ht, hf⟩ := h
    refine lv_if_eq (tgt := 28) hx hb dX11_part_18 (by decide) (fun c9 => ?_) (fun c9 => ?_)
    · have h := ht c9
      refine lv_iconst (v := -1) hx hb dX11_part_28 (by decide) ?_
      exact hret (-1 : Int32) (0 : Int32) t_n t_h t_made t_part t_table t_twists H locs ls _ hP hD hS h dX11_part_29
    · have h := hf c9
      refine lv_aload_n hx hb dX11_part_21 rfl (lv_at hl 0 rfl) ?_
      refine mc_iV ⟨hx, hb, hml, hown, hts⟩ hK hE hA hP hD hS (c_X11_isRack l G Y tF H.size h_t B_t (0 : Int32) t_n t_modulus t_rows t_strands t_letters t_listedMany t_listN t_listWhat t_table h) (cwV 0 hts gX11_part_X11_isRack rfl rfl rfl (by decide +kernel) ⟨Nat.le_trans (by decide) hRf, Nat.le_trans (by decide) hRl⟩) (fun u => (w_X11_part Y h_t B_t (0 : Int32) t_n t_modulus t_rows t_strands t_letters t_listedMany t_listN t_listWhat t_h t_made t_part t_table t_twists)) [0, 4] [1, 2, 3, 5] [4, 0, 1, 2, 5, 3] rfl rfl rfl rfl (by decide) (fun _ => rfl) rfl 0 10 rfl rfl rfl rfl hl.1 rfl (Nat.le_of_ble_eq_true rfl) dX11_part_22 (fun r22 u H locs h hP hD hS => ?_)
      try dsimp only at h
      have hP : va_P G vwCl (w_X11_part Y h_t B_t (0 : Int32) t_n t_modulus t_rows t_strands t_letters t_listedMany t_listN t_listWhat t_h t_made t_part t_table t_twists) H := hP
      have hD : va_D A (w_X11_part Y h_t B_t (0 : Int32) t_n t_modulus t_rows t_strands t_letters t_listedMany t_listN t_listWhat t_h t_made t_part t_table t_twists) := hD
      obtain ⟨ht, hf⟩ := h
      refine lv_if_ne (tgt := 30) hx hb dX11_part_25 (by decide) (fun c9 => ?_) (fun c9 => ?_)
      · have h := ht c9
        refine lv_iconst (v := 0) hx hb dX11_part_30 (by decide) ?_
        refine lv_istore_n (lv' := [(3, .int (0 : Int32)), (0, .ref h_t), (1, .int x1), (2, .int x2)]) hx hb dX11_part_31 rfl hl (by decide) rfl (fun ls hl => ?_)
        obtain ⟨I32, m32, hI32, hB32⟩ := h
        have L32 : ∀ (x1 : Int32) (x2 : Int32) (t_thrown : Int32) (t_n : Int32) (t_h : Nat → Int32) (t_made : Nat → Int32) (t_table : Nat → Int32) (t_twists : Nat → Int32) (I32 : Int32 → (Nat → Int32) → Prop) (m32 : Int32 → (Nat → Int32) → Nat), (∀ (x3 : Int32) (t_part : Nat → Int32), I32 x3 t_part → pX11_part_32 K x1 x2 t_thrown t_n t_h t_made t_table t_twists x3 t_part (fun x3' t_part' => I32 x3' t_part' ∧ m32 x3' t_part' < m32 x3 t_part)) → ∀ (n : Nat) (x3 : Int32) (t_part : Nat → Int32) (H : Heap) (locs : List Loc) (ls : Array Slot), I32 x3 t_part → m32 x3 t_part < n → va_P G vwCl (w_X11_part Y h_t B_t t_thrown t_n t_modulus t_rows t_strands t_letters t_listedMany t_listN t_listWhat t_h t_made t_part t_table t_twists) H → va_D A (w_X11_part Y h_t B_t t_thrown t_n t_modulus t_rows t_strands t_letters t_listedMany t_listN t_listWhat t_h t_made t_part t_table t_twists) → va_S A s.heap H locs → lv_has ls 7 [(0, .ref h_t), (1, .int x1), (2, .int x2), (3, .int x3)] → W p l e R s m args below meth c H locs 0 0 Q (F0 m 32 ls []) := by
          intro x1 x2 t_thrown t_n t_h t_made t_table t_twists I32 m32 hB32 n
          induction n with
          | zero => intro x3 t_part H locs ls _ hm; exact absurd hm (Nat.not_lt_zero _)
          | succ n ih =>
            intro x3 t_part H locs ls hI hm hP hD hS hl
            obtain ⟨R32, h, rec32⟩ : ∃ R32 : Int32 → (Nat → Int32) → Prop, pX11_part_32 K x1 x2 t_thrown t_n t_h t_made t_table t_twists x3 t_part R32 ∧ ∀ (x3 : Int32) (t_part : Nat → Int32) (H : Heap) (locs : List Loc) (ls : Array Slot), R32 x3 t_part → va_P G vwCl (w_X11_part Y h_t B_t t_thrown t_n t_modulus t_rows t_strands t_letters t_listedMany t_listN t_listWhat t_h t_made t_part t_table t_twists) H → va_D A (w_X11_part Y h_t B_t t_thrown t_n t_modulus t_rows t_strands t_letters t_listedMany t_listN t_listWhat t_h t_made t_part t_table t_twists) → va_S A s.heap H locs → lv_has ls 7 [(0, .ref h_t), (1, .int x1), (2, .int x2), (3, .int x3)] → W p l e R s m args below meth c H locs 0 0 Q (F0 m 32 ls []) := ⟨_, hB32 x3 t_part hI, fun x3 t_part H locs ls hh hP hD hS hl => ih x3 t_part H locs ls hh.1 (Nat.lt_of_lt_of_le hh.2 (Nat.le_of_lt_succ hm)) hP hD hS hl⟩
            refine lv_iload_n hx hb dX11_part_32 rfl (lv_at hl 3 rfl) ?_
            refine lv_aload_n hx hb dX11_part_33 rfl (lv_at hl 0 rfl) ?_
            refine va_get (D := G) (ci := 10) (v := .int t_n) (C := RX11) (T := TX11) (N := 29) hx hb hts inX11 hown hK hP 0 rfl rfl 1 (by decide) hf9 (fun _ h9 => h9) rfl dX11_part_34 ?_
            obtain ⟨ht, hf⟩ := h
            refine lv_icmp_ge (tgt := 53) hx hb dX11_part_37 (by decide) (fun c9 => ?_) (fun c9 => ?_)
            · have h := ht c9
              refine lv_aload_n hx hb dX11_part_53 rfl (lv_at hl 0 rfl) ?_
              refine lv_iload_n hx hb dX11_part_54 rfl (lv_at hl 1 rfl) ?_
              refine lv_iload_n hx hb dX11_part_55 rfl (lv_at hl 2 rfl) ?_
              refine mc_iV ⟨hx, hb, hml, hown, hts⟩ hK hE hA hP hD hS (c_X11_melts l G Y tF H.size h_t B_t t_thrown t_n t_modulus t_rows t_strands t_letters t_listedMany t_listN t_listWhat t_part x1 x2 h) (cwV 2 hts gX11_part_X11_melts rfl rfl rfl (by decide +kernel) ⟨Nat.le_trans (by decide) hRf, Nat.le_trans (by decide) hRl⟩) (fun u => (w_X11_part Y h_t B_t t_thrown t_n t_modulus t_rows t_strands t_letters t_listedMany t_listN t_listWhat t_h t_made u t_table t_twists)) [0, 3] [1, 2, 4, 5] [4, 0, 1, 5, 2, 3] rfl rfl rfl rfl (by decide) (fun _ => rfl) rfl 0 10 rfl rfl rfl rfl hl.1 rfl (Nat.le_of_ble_eq_true rfl) dX11_part_56 (fun r56 u H locs h hP hD hS => ?_)
              obtain ⟨t_part_56, rfl⟩ : ∃ z, z = u := ⟨_, rfl⟩
              try dsimp only at h
              have hP : va_P G vwCl (w_X11_part Y h_t B_t t_thrown t_n t_modulus t_rows t_strands t_letters t_listedMany t_listN t_listWhat t_h t_made t_part_56 t_table t_twists) H := hP
              have hD : va_D A (w_X11_part Y h_t B_t t_thrown t_n t_modulus t_rows t_strands t_letters t_listedMany t_listN t_listWhat t_h t_made t_part_56 t_table t_twists) := hD
              refine lv_istore_n (lv' := [(3, .int r56), (0, .ref h_t), (1, .int x1), (2, .int x2)]) hx hb dX11_part_59 rfl hl (by decide) rfl (fun ls hl => ?_)
              obtain ⟨I60, m60, hI60, hB60⟩ := h
              have L60 : ∀ (t_thrown : Int32) (t_n : Int32) (t_h : Nat → Int32) (t_made : Nat → Int32) (t_table : Nat → Int32) (t_twists : Nat → Int32) (I60 : Int32 → (Nat → Int32) → Prop) (m60 : Int32 → (Nat → Int32) → Nat), (∀ (x3 : Int32) (t_part : Nat → Int32), I60 x3 t_part → pX11_part_60 R32 K t_thrown t_n t_h t_made t_table t_twists x3 t_part (fun x3' t_part' => I60 x3' t_part' ∧ m60 x3' t_part' < m60 x3 t_part)) → ∀ (n : Nat) (x3 : Int32) (t_part : Nat → Int32) (H : Heap) (locs : List Loc) (ls : Array Slot), I60 x3 t_part → m60 x3 t_part < n → va_P G vwCl (w_X11_part Y h_t B_t t_thrown t_n t_modulus t_rows t_strands t_letters t_listedMany t_listN t_listWhat t_h t_made t_part t_table t_twists) H → va_D A (w_X11_part Y h_t B_t t_thrown t_n t_modulus t_rows t_strands t_letters t_listedMany t_listN t_listWhat t_h t_made t_part t_table t_twists) → va_S A s.heap H locs → lv_has ls 7 [(0, .ref h_t), (3, .int x3)] → W p l e R s m args below meth c H locs 0 0 Q (F0 m 60 ls []) := by
                intro t_thrown t_n t_h t_made t_table t_twists I60 m60 hB60 n
                induction n with
                | zero => intro x3 t_part H locs ls _ hm; exact absurd hm (Nat.not_lt_zero _)
                | succ n ih =>
                  intro x3 t_part H locs ls hI hm hP hD hS hl
                  obtain ⟨R60, h, rec60⟩ : ∃ R60 : Int32 → (Nat → Int32) → Prop, pX11_part_60 R32 K t_thrown t_n t_h t_made t_table t_twists x3 t_part R60 ∧ ∀ (x3 : Int32) (t_part : Nat → Int32) (H : Heap) (locs : List Loc) (ls : Array Slot), R60 x3 t_part → va_P G vwCl (w_X11_part Y h_t B_t t_thrown t_n t_modulus t_rows t_strands t_letters t_listedMany t_listN t_listWhat t_h t_made t_part t_table t_twists) H → va_D A (w_X11_part Y h_t B_t t_thrown t_n t_modulus t_rows t_strands t_letters t_listedMany t_listN t_listWhat t_h t_made t_part t_table t_twists) → va_S A s.heap H locs → lv_has ls 7 [(0, .ref h_t), (3, .int x3)] → W p l e R s m args below meth c H locs 0 0 Q (F0 m 60 ls []) := ⟨_, hB60 x3 t_part hI, fun x3 t_part H locs ls hh hP hD hS hl => ih x3 t_part H locs ls hh.1 (Nat.lt_of_lt_of_le hh.2 (Nat.le_of_lt_succ hm)) hP hD hS hl⟩
                  refine lv_iload_n hx hb dX11_part_60 rfl (lv_at hl 1 rfl) ?_
                  obtain ⟨ht, hf⟩ := h
                  refine lv_if_eq (tgt := 206) hx hb dX11_part_61 (by decide) (fun c9 => ?_) (fun c9 => ?_)
                  · have h := ht c9
                    refine lv_aload_n hx hb dX11_part_206 rfl (lv_at hl 0 rfl) ?_
                    refine lv_aload_n hx hb dX11_part_207 rfl (lv_at hl 0 rfl) ?_
                    refine va_get (D := G) (ci := 10) (v := .ref (B_t 18)) (C := RX11) (T := TX11) (N := 29) hx hb hts inX11 hown hK hP 0 rfl rfl 18 (by decide) hf61 (fun _ h9 => h9) rfl dX11_part_208 ?_
                    refine mc_iV ⟨hx, hb, hml, hown, hts⟩ hK hE hA hP hD hS (c_X11_numbered l G Y tF H.size h_t (B_t 18) B_t 8 t_thrown t_n t_modulus t_rows t_strands t_letters t_listedMany t_listN t_listWhat t_h t_part h) (cwV 1 hts gX11_part_X11_numbered rfl rfl rfl (by decide +kernel) ⟨Nat.le_trans (by decide) hRf, Nat.le_trans (by decide) hRl⟩) (fun u => (w_X11_part Y h_t B_t t_thrown t_n t_modulus t_rows t_strands t_letters t_listedMany t_listN t_listWhat u.1 t_made u.2 t_table t_twists)) [0, 1, 3] [2, 4, 5] [3, 4, 0, 5, 1, 2] rfl rfl rfl rfl (by decide) (fun _ => rfl) rfl 0 10 rfl rfl rfl rfl hl.1 rfl (Nat.le_of_ble_eq_true rfl) dX11_part_211 (fun r211 u H locs h hP hD hS => ?_)
                    obtain ⟨t_h_211, t_part_211⟩ := u
                    try dsimp only at h
                    have hP : va_P G vwCl (w_X11_part Y h_t B_t t_thrown t_n t_modulus t_rows t_strands t_letters t_listedMany t_listN t_listWhat t_h_211 t_made t_part_211 t_table t_twists) H := hP
                    have hD : va_D A (w_X11_part Y h_t B_t t_thrown t_n t_modulus t_rows t_strands t_letters t_listedMany t_listN t_listWhat t_h_211 t_made t_part_211 t_table t_twists) := hD
                    refine lv_istore (lv' := [(4, .int r211), (0, .ref h_t), (3, .int x3)]) hx hb dX11_part_214 hl (by decide) rfl (fun ls hl => ?_)
                    refine lv_iconst (v := 0) hx hb dX11_part_216 (by decide) ?_
                    refine lv_istore (lv' := [(5, .int (0 : Int32)), (4, .int r211), (0, .ref h_t), (3, .int x3)]) hx hb dX11_part_217 hl (by decide) rfl (fun ls hl => ?_)
                    obtain ⟨I219, m219, hI219, hB219⟩ := h
                    have L219 : ∀ (x4 : Int32) (t_thrown : Int32) (t_n : Int32) (t_h : Nat → Int32) (t_part : Nat → Int32) (t_table : Nat → Int32) (t_twists : Nat → Int32) (I219 : Int32 → (Nat → Int32) → Prop) (m219 : Int32 → (Nat → Int32) → Nat), (∀ (x5 : Int32) (t_made : Nat → Int32), I219 x5 t_made → pX11_part_219 R60 K x4 t_thrown t_n t_h t_part t_table t_twists x5 t_made (fun x5' t_made' => I219 x5' t_made' ∧ m219 x5' t_made' < m219 x5 t_made)) → ∀ (n : Nat) (x5 : Int32) (t_made : Nat → Int32) (H : Heap) (locs : List Loc) (ls : Array Slot), I219 x5 t_made → m219 x5 t_made < n → va_P G vwCl (w_X11_part Y h_t B_t t_thrown t_n t_modulus t_rows t_strands t_letters t_listedMany t_listN t_listWhat t_h t_made t_part t_table t_twists) H → va_D A (w_X11_part Y h_t B_t t_thrown t_n t_modulus t_rows t_strands t_letters t_listedMany t_listN t_listWhat t_h t_made t_part t_table t_twists) → va_S A s.heap H locs → lv_has ls 7 [(0, .ref h_t), (4, .int x4), (5, .int x5)] → W p l e R s m args below meth c H locs 0 0 Q (F0 m 219 ls []) := by
                      intro x4 t_thrown t_n t_h t_part t_table t_twists I219 m219 hB219 n
                      induction n with
                      | zero => intro x5 t_made H locs ls _ hm; exact absurd hm (Nat.not_lt_zero _)
                      | succ n ih =>
                        intro x5 t_made H locs ls hI hm hP hD hS hl
                        obtain ⟨R219, h, rec219⟩ : ∃ R219 : Int32 → (Nat → Int32) → Prop, pX11_part_219 R60 K x4 t_thrown t_n t_h t_part t_table t_twists x5 t_made R219 ∧ ∀ (x5 : Int32) (t_made : Nat → Int32) (H : Heap) (locs : List Loc) (ls : Array Slot), R219 x5 t_made → va_P G vwCl (w_X11_part Y h_t B_t t_thrown t_n t_modulus t_rows t_strands t_letters t_listedMany t_listN t_listWhat t_h t_made t_part t_table t_twists) H → va_D A (w_X11_part Y h_t B_t t_thrown t_n t_modulus t_rows t_strands t_letters t_listedMany t_listN t_listWhat t_h t_made t_part t_table t_twists) → va_S A s.heap H locs → lv_has ls 7 [(0, .ref h_t), (4, .int x4), (5, .int x5)] → W p l e R s m args below meth c H locs 0 0 Q (F0 m 219 ls []) := ⟨_, hB219 x5 t_made hI, fun x5 t_made H locs ls hh hP hD hS hl => ih x5 t_made H locs ls hh.1 (Nat.lt_of_lt_of_le hh.2 (Nat.le_of_lt_succ hm)) hP hD hS hl⟩
                        refine lv_iload hx hb dX11_part_219 (lv_at hl 2 rfl) ?_
                        refine lv_aload_n hx hb dX11_part_221 rfl (lv_at hl 0 rfl) ?_
                        refine va_get (D := G) (ci := 10) (v := .int t_n) (C := RX11) (T := TX11) (N := 29) hx hb hts inX11 hown hK hP 0 rfl rfl 1 (by decide) hf9 (fun _ h9 => h9) rfl dX11_part_222 ?_
                        obtain ⟨ht, hf⟩ := h
                        refine lv_icmp_ge (tgt := 288) hx hb dX11_part_225 (by decide) (fun c9 => ?_) (fun c9 => ?_)
                        · have h := ht c9
                          refine lv_aload_n hx hb dX11_part_288 rfl (lv_at hl 0 rfl) ?_
                          refine lv_iload hx hb dX11_part_289 (lv_at hl 1 rfl) ?_
                          refine mc_vV ⟨hx, hb, hml, hown, hts⟩ hK hE hA hP hD hS (c_X11_becomes l G Y tF H.size h_t B_t t_thrown t_n t_modulus t_rows t_strands t_letters t_listedMany t_listN t_listWhat t_made t_table t_twists x4 h) (cwV 1 hts gX11_part_X11_becomes rfl rfl rfl (by decide +kernel) ⟨Nat.le_trans (by decide) hRf, Nat.le_trans (by decide) hRl⟩) (fun u => (w_X11_part Y h_t B_t t_thrown u.1 t_modulus t_rows t_strands t_letters t_listedMany t_listN t_listWhat t_h t_made t_part u.2.1 u.2.2)) [0, 2, 4, 5] [1, 3] [2, 0, 3, 1, 4, 5] rfl rfl rfl rfl (by decide) (fun _ => rfl) rfl 0 10 rfl rfl rfl rfl hl.1 rfl (Nat.le_of_ble_eq_true rfl) dX11_part_291 (fun u H locs h hP hD hS => ?_)
                          obtain ⟨t_n_291, t_table_291, t_twists_291⟩ := u
                          try dsimp only at h
                          have hP : va_P G vwCl (w_X11_part Y h_t B_t t_thrown t_n_291 t_modulus t_rows t_strands t_letters t_listedMany t_listN t_listWhat t_h t_made t_part t_table_291 t_twists_291) H := hP
                          have hD : va_D A (w_X11_part Y h_t B_t t_thrown t_n_291 t_modulus t_rows t_strands t_letters t_listedMany t_listN t_listWhat t_h t_made t_part t_table_291 t_twists_291) := hD
                          refine lv_aload_n hx hb dX11_part_294 rfl (lv_at hl 0 rfl) ?_
                          refine va_get (D := G) (ci := 10) (v := .int t_n_291) (C := RX11) (T := TX11) (N := 29) hx hb hts inX11 hown hK hP 0 rfl rfl 1 (by decide) hf9 (fun _ h9 => h9) rfl dX11_part_295 ?_
                          exact hret t_n_291 t_thrown t_n_291 t_h t_made t_part t_table_291 t_twists_291 H locs ls _ hP hD hS h dX11_part_298
                        · have h := hf c9
                          refine lv_iconst (v := 0) hx hb dX11_part_228 (by decide) ?_
                          refine lv_istore (lv' := [(6, .int (0 : Int32)), (0, .ref h_t), (4, .int x4), (5, .int x5)]) hx hb dX11_part_229 hl (by decide) rfl (fun ls hl => ?_)
                          obtain ⟨I231, m231, hI231, hB231⟩ := h
                          have L231 : ∀ (x5 : Int32) (I231 : Int32 → (Nat → Int32) → Prop) (m231 : Int32 → (Nat → Int32) → Nat), (∀ (x6 : Int32) (t_made : Nat → Int32), I231 x6 t_made → pX11_part_231 R219 K x4 t_thrown t_n t_h t_part t_table t_twists x5 x6 t_made (fun x6' t_made' => I231 x6' t_made' ∧ m231 x6' t_made' < m231 x6 t_made)) → ∀ (n : Nat) (x6 : Int32) (t_made : Nat → Int32) (H : Heap) (locs : List Loc) (ls : Array Slot), I231 x6 t_made → m231 x6 t_made < n → va_P G vwCl (w_X11_part Y h_t B_t t_thrown t_n t_modulus t_rows t_strands t_letters t_listedMany t_listN t_listWhat t_h t_made t_part t_table t_twists) H → va_D A (w_X11_part Y h_t B_t t_thrown t_n t_modulus t_rows t_strands t_letters t_listedMany t_listN t_listWhat t_h t_made t_part t_table t_twists) → va_S A s.heap H locs → lv_has ls 7 [(0, .ref h_t), (4, .int x4), (5, .int x5), (6, .int x6)] → W p l e R s m args below meth c H locs 0 0 Q (F0 m 231 ls []) := by
                            intro x5 I231 m231 hB231 n
                            induction n with
                            | zero => intro x6 t_made H locs ls _ hm; exact absurd hm (Nat.not_lt_zero _)
                            | succ n ih =>
                              intro x6 t_made H locs ls hI hm hP hD hS hl
                              obtain ⟨R231, h, rec231⟩ : ∃ R231 : Int32 → (Nat → Int32) → Prop, pX11_part_231 R219 K x4 t_thrown t_n t_h t_part t_table t_twists x5 x6 t_made R231 ∧ ∀ (x6 : Int32) (t_made : Nat → Int32) (H : Heap) (locs : List Loc) (ls : Array Slot), R231 x6 t_made → va_P G vwCl (w_X11_part Y h_t B_t t_thrown t_n t_modulus t_rows t_strands t_letters t_listedMany t_listN t_listWhat t_h t_made t_part t_table t_twists) H → va_D A (w_X11_part Y h_t B_t t_thrown t_n t_modulus t_rows t_strands t_letters t_listedMany t_listN t_listWhat t_h t_made t_part t_table t_twists) → va_S A s.heap H locs → lv_has ls 7 [(0, .ref h_t), (4, .int x4), (5, .int x5), (6, .int x6)] → W p l e R s m args below meth c H locs 0 0 Q (F0 m 231 ls []) := ⟨_, hB231 x6 t_made hI, fun x6 t_made H locs ls hh hP hD hS hl => ih x6 t_made H locs ls hh.1 (Nat.lt_of_lt_of_le hh.2 (Nat.le_of_lt_succ hm)) hP hD hS hl⟩
                              refine lv_iload hx hb dX11_part_231 (lv_at hl 3 rfl) ?_
                              refine lv_aload_n hx hb dX11_part_233 rfl (lv_at hl 0 rfl) ?_
                              refine va_get (D := G) (ci := 10) (v := .int t_n) (C := RX11) (T := TX11) (N := 29) hx hb hts inX11 hown hK hP 0 rfl rfl 1 (by decide) hf9 (fun _ h9 => h9) rfl dX11_part_234 ?_
                              obtain ⟨ht, hf⟩ := h
                              refine lv_icmp_ge (tgt := 282) hx hb dX11_part_237 (by decide) (fun c9 => ?_) (fun c9 => ?_)
                              · have h := ht c9
                                refine lv_iinc (v := (x5 + 1)) (lv' := [(5, .int (x5 + 1)), (0, .ref h_t), (4, .int x4), (6, .int x6)]) hx hb dX11_part_282 hl (k := 2) rfl rfl (by decide) rfl (fun ls hl => ?_)
                                refine lv_goto (tgt := 219) hx hb dX11_part_285 (by decide) ?_
                                exact rec219 (x5 + 1) t_made H locs ls h hP hD hS (lv_sub hl [1, 2, 0] rfl)
                              · have h := hf c9
                                refine lv_aload_n hx hb dX11_part_240 rfl (lv_at hl 0 rfl) ?_
                                refine va_get (D := G) (ci := 10) (v := .ref (B_t 17)) (C := RX11) (T := TX11) (N := 29) hx hb hts inX11 hown hK hP 0 rfl rfl 17 (by decide) hf58 (fun _ h9 => h9) rfl dX11_part_241 ?_
                                refine lv_bipush (v := 8) hx hb dX11_part_244 (by decide) ?_
                                refine lv_aload_n hx hb dX11_part_246 rfl (lv_at hl 0 rfl) ?_
                                refine va_get (D := G) (ci := 10) (v := .ref (B_t 18)) (C := RX11) (T := TX11) (N := 29) hx hb hts inX11 hown hK hP 0 rfl rfl 18 (by decide) hf61 (fun _ h9 => h9) rfl dX11_part_247 ?_
                                refine lv_iload hx hb dX11_part_250 (lv_at hl 2 rfl) ?_
                                obtain ⟨hin, h⟩ := h
                                refine va_iald hx hb hK hP 3 0 rfl rfl hin dX11_part_252 ?_
                                refine lv_imul hx hb dX11_part_253 ?_
                                refine lv_aload_n hx hb dX11_part_254 rfl (lv_at hl 0 rfl) ?_
                                refine va_get (D := G) (ci := 10) (v := .ref (B_t 18)) (C := RX11) (T := TX11) (N := 29) hx hb hts inX11 hown hK hP 0 rfl rfl 18 (by decide) hf61 (fun _ h9 => h9) rfl dX11_part_255 ?_
                                refine lv_iload hx hb dX11_part_258 (lv_at hl 3 rfl) ?_
                                obtain ⟨hin, h⟩ := h
                                refine va_iald hx hb hK hP 3 0 rfl rfl hin dX11_part_260 ?_
                                refine lv_iadd hx hb dX11_part_261 ?_
                                refine lv_aload_n hx hb dX11_part_262 rfl (lv_at hl 0 rfl) ?_
                                refine va_get (D := G) (ci := 10) (v := .ref (B_t 18)) (C := RX11) (T := TX11) (N := 29) hx hb hts inX11 hown hK hP 0 rfl rfl 18 (by decide) hf61 (fun _ h9 => h9) rfl dX11_part_263 ?_
                                refine lv_aload_n hx hb dX11_part_266 rfl (lv_at hl 0 rfl) ?_
                                refine lv_iload hx hb dX11_part_267 (lv_at hl 2 rfl) ?_
                                refine lv_iload hx hb dX11_part_269 (lv_at hl 3 rfl) ?_
                                refine mc_iV ⟨hx, hb, hml, hown, hts⟩ hK hE hA hP hD hS (c_X11_by l G Y tF H.size h_t B_t t_thrown t_n t_modulus t_rows t_strands t_letters t_listedMany t_listN t_listWhat t_table x5 x6 h) (cwV 2 hts gX11_part_X11_by rfl rfl rfl (by decide +kernel) ⟨Nat.le_trans (by decide) hRf, Nat.le_trans (by decide) hRl⟩) (fun u => (w_X11_part Y h_t B_t t_thrown t_n t_modulus t_rows t_strands t_letters t_listedMany t_listN t_listWhat t_h t_made t_part t_table t_twists)) [0, 4] [1, 2, 3, 5] [4, 0, 1, 2, 5, 3] rfl rfl rfl rfl (by decide) (fun _ => rfl) rfl 0 10 rfl rfl rfl rfl hl.1 rfl (Nat.le_of_ble_eq_true rfl) dX11_part_271 (fun r271 u H locs h hP hD hS => ?_)
                                try dsimp only at h
                                have hP : va_P G vwCl (w_X11_part Y h_t B_t t_thrown t_n t_modulus t_rows t_strands t_letters t_listedMany t_listN t_listWhat t_h t_made t_part t_table t_twists) H := hP
                                have hD : va_D A (w_X11_part Y h_t B_t t_thrown t_n t_modulus t_rows t_strands t_letters t_listedMany t_listN t_listWhat t_h t_made t_part t_table t_twists) := hD
                                obtain ⟨hin, h⟩ := h
                                refine va_iald hx hb hK hP 3 0 rfl rfl hin dX11_part_274 ?_
                                obtain ⟨hin, h⟩ := h
                                refine va_iast hx hb hK hP hD hS 2 0 rfl rfl hin dX11_part_275 (fun H locs hP hD hS => ?_)
                                have hP : va_P G vwCl (w_X11_part Y h_t B_t t_thrown t_n t_modulus t_rows t_strands t_letters t_listedMany t_listN t_listWhat t_h (upd t_made (Int32.toNatClampNeg (((8 : Int32) * (t_part (Int32.toNatClampNeg x5))) + (t_part (Int32.toNatClampNeg x6)))) (t_part (Int32.toNatClampNeg r271))) t_part t_table t_twists) H := hP
                                have hD : va_D A (w_X11_part Y h_t B_t t_thrown t_n t_modulus t_rows t_strands t_letters t_listedMany t_listN t_listWhat t_h (upd t_made (Int32.toNatClampNeg (((8 : Int32) * (t_part (Int32.toNatClampNeg x5))) + (t_part (Int32.toNatClampNeg x6)))) (t_part (Int32.toNatClampNeg r271))) t_part t_table t_twists) := hD
                                refine lv_iinc (v := (x6 + 1)) (lv' := [(6, .int (x6 + 1)), (0, .ref h_t), (4, .int x4), (5, .int x5)]) hx hb dX11_part_276 hl (k := 3) rfl rfl (by decide) rfl (fun ls hl => ?_)
                                refine lv_goto (tgt := 231) hx hb dX11_part_279 (by decide) ?_
                                exact rec231 (x6 + 1) (upd t_made (Int32.toNatClampNeg (((8 : Int32) * (t_part (Int32.toNatClampNeg x5))) + (t_part (Int32.toNatClampNeg x6)))) (t_part (Int32.toNatClampNeg r271))) H locs ls h hP hD hS (lv_sub hl [1, 2, 3, 0] rfl)
                          exact L231 x5 I231 m231 hB231 _ (0 : Int32) t_made H locs ls hI231 (Nat.lt_succ_self _) hP hD hS (lv_sub hl [1, 2, 3, 0] rfl)
                    exact L219 r211 t_thrown t_n t_h_211 t_part_211 t_table t_twists I219 m219 hB219 _ (0 : Int32) t_made H locs ls hI219 (Nat.lt_succ_self _) hP hD hS (lv_sub hl [2, 1, 0] rfl)
                  · have h := hf c9
                    refine lv_iconst (v := 0) hx hb dX11_part_64 (by decide) ?_
                    refine lv_istore_n (lv' := [(3, .int (0 : Int32)), (0, .ref h_t)]) hx hb dX11_part_65 rfl hl (by decide) rfl (fun ls hl => ?_)
                    refine lv_iconst (v := 0) hx hb dX11_part_66 (by decide) ?_
                    refine lv_istore (lv' := [(4, .int (0 : Int32)), (3, .int (0 : Int32)), (0, .ref h_t)]) hx hb dX11_part_67 hl (by decide) rfl (fun ls hl => ?_)
                    obtain ⟨I69, m69, hI69, hB69⟩ := h
                    have L69 : ∀  (I69 : Int32 → Int32 → (Nat → Int32) → Prop) (m69 : Int32 → Int32 → (Nat → Int32) → Nat), (∀ (x3 : Int32) (x4 : Int32) (t_part : Nat → Int32), I69 x3 x4 t_part → pX11_part_69 R60 K t_thrown t_n t_h t_made t_table t_twists x3 x4 t_part (fun x3' x4' t_part' => I69 x3' x4' t_part' ∧ m69 x3' x4' t_part' < m69 x3 x4 t_part)) → ∀ (n : Nat) (x3 : Int32) (x4 : Int32) (t_part : Nat → Int32) (H : Heap) (locs : List Loc) (ls : Array Slot), I69 x3 x4 t_part → m69 x3 x4 t_part < n → va_P G vwCl (w_X11_part Y h_t B_t t_thrown t_n t_modulus t_rows t_strands t_letters t_listedMany t_listN t_listWhat t_h t_made t_part t_table t_twists) H → va_D A (w_X11_part Y h_t B_t t_thrown t_n t_modulus t_rows t_strands t_letters t_listedMany t_listN t_listWhat t_h t_made t_part t_table t_twists) → va_S A s.heap H locs → lv_has ls 7 [(0, .ref h_t), (3, .int x3), (4, .int x4)] → W p l e R s m args below meth c H locs 0 0 Q (F0 m 69 ls []) := by
                      intro  I69 m69 hB69 n
                      induction n with
                      | zero => intro x3 x4 t_part H locs ls _ hm; exact absurd hm (Nat.not_lt_zero _)
                      | succ n ih =>
                        intro x3 x4 t_part H locs ls hI hm hP hD hS hl
                        obtain ⟨R69, h, rec69⟩ : ∃ R69 : Int32 → Int32 → (Nat → Int32) → Prop, pX11_part_69 R60 K t_thrown t_n t_h t_made t_table t_twists x3 x4 t_part R69 ∧ ∀ (x3 : Int32) (x4 : Int32) (t_part : Nat → Int32) (H : Heap) (locs : List Loc) (ls : Array Slot), R69 x3 x4 t_part → va_P G vwCl (w_X11_part Y h_t B_t t_thrown t_n t_modulus t_rows t_strands t_letters t_listedMany t_listN t_listWhat t_h t_made t_part t_table t_twists) H → va_D A (w_X11_part Y h_t B_t t_thrown t_n t_modulus t_rows t_strands t_letters t_listedMany t_listN t_listWhat t_h t_made t_part t_table t_twists) → va_S A s.heap H locs → lv_has ls 7 [(0, .ref h_t), (3, .int x3), (4, .int x4)] → W p l e R s m args below meth c H locs 0 0 Q (F0 m 69 ls []) := ⟨_, hB69 x3 x4 t_part hI, fun x3 x4 t_part H locs ls hh hP hD hS hl => ih x3 x4 t_part H locs ls hh.1 (Nat.lt_of_lt_of_le hh.2 (Nat.le_of_lt_succ hm)) hP hD hS hl⟩
                        refine lv_iload hx hb dX11_part_69 (lv_at hl 2 rfl) ?_
                        refine lv_aload_n hx hb dX11_part_71 rfl (lv_at hl 0 rfl) ?_
                        refine va_get (D := G) (ci := 10) (v := .int t_n) (C := RX11) (T := TX11) (N := 29) hx hb hts inX11 hown hK hP 0 rfl rfl 1 (by decide) hf9 (fun _ h9 => h9) rfl dX11_part_72 ?_
                        obtain ⟨ht, hf⟩ := h
                        refine lv_icmp_ge (tgt := 203) hx hb dX11_part_75 (by decide) (fun c9 => ?_) (fun c9 => ?_)
                        · have h := ht c9
                          refine lv_goto (tgt := 60) hx hb dX11_part_203 (by decide) ?_
                          exact rec60 x3 t_part H locs ls h hP hD hS (lv_sub hl [0, 1] rfl)
                        · have h := hf c9
                          refine lv_iconst (v := 0) hx hb dX11_part_78 (by decide) ?_
                          refine lv_istore (lv' := [(5, .int (0 : Int32)), (0, .ref h_t), (3, .int x3), (4, .int x4)]) hx hb dX11_part_79 hl (by decide) rfl (fun ls hl => ?_)
                          obtain ⟨I81, m81, hI81, hB81⟩ := h
                          have L81 : ∀ (x4 : Int32) (I81 : Int32 → Int32 → (Nat → Int32) → Prop) (m81 : Int32 → Int32 → (Nat → Int32) → Nat), (∀ (x3 : Int32) (x5 : Int32) (t_part : Nat → Int32), I81 x3 x5 t_part → pX11_part_81 R60 R69 K t_thrown t_n t_h t_made t_table t_twists x4 x3 x5 t_part (fun x3' x5' t_part' => I81 x3' x5' t_part' ∧ m81 x3' x5' t_part' < m81 x3 x5 t_part)) → ∀ (n : Nat) (x3 : Int32) (x5 : Int32) (t_part : Nat → Int32) (H : Heap) (locs : List Loc) (ls : Array Slot), I81 x3 x5 t_part → m81 x3 x5 t_part < n → va_P G vwCl (w_X11_part Y h_t B_t t_thrown t_n t_modulus t_rows t_strands t_letters t_listedMany t_listN t_listWhat t_h t_made t_part t_table t_twists) H → va_D A (w_X11_part Y h_t B_t t_thrown t_n t_modulus t_rows t_strands t_letters t_listedMany t_listN t_listWhat t_h t_made t_part t_table t_twists) → va_S A s.heap H locs → lv_has ls 7 [(0, .ref h_t), (3, .int x3), (4, .int x4), (5, .int x5)] → W p l e R s m args below meth c H locs 0 0 Q (F0 m 81 ls []) := by
                            intro x4 I81 m81 hB81 n
                            induction n with
                            | zero => intro x3 x5 t_part H locs ls _ hm; exact absurd hm (Nat.not_lt_zero _)
                            | succ n ih =>
                              intro x3 x5 t_part H locs ls hI hm hP hD hS hl
                              obtain ⟨R81, h, rec81⟩ : ∃ R81 : Int32 → Int32 → (Nat → Int32) → Prop, pX11_part_81 R60 R69 K t_thrown t_n t_h t_made t_table t_twists x4 x3 x5 t_part R81 ∧ ∀ (x3 : Int32) (x5 : Int32) (t_part : Nat → Int32) (H : Heap) (locs : List Loc) (ls : Array Slot), R81 x3 x5 t_part → va_P G vwCl (w_X11_part Y h_t B_t t_thrown t_n t_modulus t_rows t_strands t_letters t_listedMany t_listN t_listWhat t_h t_made t_part t_table t_twists) H → va_D A (w_X11_part Y h_t B_t t_thrown t_n t_modulus t_rows t_strands t_letters t_listedMany t_listN t_listWhat t_h t_made t_part t_table t_twists) → va_S A s.heap H locs → lv_has ls 7 [(0, .ref h_t), (3, .int x3), (4, .int x4), (5, .int x5)] → W p l e R s m args below meth c H locs 0 0 Q (F0 m 81 ls []) := ⟨_, hB81 x3 x5 t_part hI, fun x3 x5 t_part H locs ls hh hP hD hS hl => ih x3 x5 t_part H locs ls hh.1 (Nat.lt_of_lt_of_le hh.2 (Nat.le_of_lt_succ hm)) hP hD hS hl⟩
                              refine lv_iload hx hb dX11_part_81 (lv_at hl 3 rfl) ?_
                              refine lv_aload_n hx hb dX11_part_83 rfl (lv_at hl 0 rfl) ?_
                              refine va_get (D := G) (ci := 10) (v := .int t_n) (C := RX11) (T := TX11) (N := 29) hx hb hts inX11 hown hK hP 0 rfl rfl 1 (by decide) hf9 (fun _ h9 => h9) rfl dX11_part_84 ?_
                              obtain ⟨ht, hf⟩ := h
                              refine lv_icmp_ge (tgt := 197) hx hb dX11_part_87 (by decide) (fun c9 => ?_) (fun c9 => ?_)
                              · have h := ht c9
                                refine lv_iinc (v := (x4 + 1)) (lv' := [(4, .int (x4 + 1)), (0, .ref h_t), (3, .int x3), (5, .int x5)]) hx hb dX11_part_197 hl (k := 2) rfl rfl (by decide) rfl (fun ls hl => ?_)
                                refine lv_goto (tgt := 69) hx hb dX11_part_200 (by decide) ?_
                                exact rec69 x3 (x4 + 1) t_part H locs ls h hP hD hS (lv_sub hl [1, 2, 0] rfl)
                              · have h := hf c9
                                refine lv_iconst (v := 0) hx hb dX11_part_90 (by decide) ?_
                                refine lv_istore (lv' := [(6, .int (0 : Int32)), (0, .ref h_t), (3, .int x3), (4, .int x4), (5, .int x5)]) hx hb dX11_part_91 hl (by decide) rfl (fun ls hl => ?_)
                                obtain ⟨I93, m93, hI93, hB93⟩ := h
                                have L93 : ∀ (x5 : Int32) (I93 : Int32 → Int32 → (Nat → Int32) → Prop) (m93 : Int32 → Int32 → (Nat → Int32) → Nat), (∀ (x3 : Int32) (x6 : Int32) (t_part : Nat → Int32), I93 x3 x6 t_part → pX11_part_93 R60 R69 R81 K t_thrown t_n t_h t_made t_table t_twists x4 x5 x3 x6 t_part (fun x3' x6' t_part' => I93 x3' x6' t_part' ∧ m93 x3' x6' t_part' < m93 x3 x6 t_part)) → ∀ (n : Nat) (x3 : Int32) (x6 : Int32) (t_part : Nat → Int32) (H : Heap) (locs : List Loc) (ls : Array Slot), I93 x3 x6 t_part → m93 x3 x6 t_part < n → va_P G vwCl (w_X11_part Y h_t B_t t_thrown t_n t_modulus t_rows t_strands t_letters t_listedMany t_listN t_listWhat t_h t_made t_part t_table t_twists) H → va_D A (w_X11_part Y h_t B_t t_thrown t_n t_modulus t_rows t_strands t_letters t_listedMany t_listN t_listWhat t_h t_made t_part t_table t_twists) → va_S A s.heap H locs → lv_has ls 7 [(0, .ref h_t), (3, .int x3), (4, .int x4), (5, .int x5), (6, .int x6)] → W p l e R s m args below meth c H locs 0 0 Q (F0 m 93 ls []) := by
                                  intro x5 I93 m93 hB93 n
                                  induction n with
                                  | zero => intro x3 x6 t_part H locs ls _ hm; exact absurd hm (Nat.not_lt_zero _)
                                  | succ n ih =>
                                    intro x3 x6 t_part H locs ls hI hm hP hD hS hl
                                    obtain ⟨R93, h, rec93⟩ : ∃ R93 : Int32 → Int32 → (Nat → Int32) → Prop, pX11_part_93 R60 R69 R81 K t_thrown t_n t_h t_made t_table t_twists x4 x5 x3 x6 t_part R93 ∧ ∀ (x3 : Int32) (x6 : Int32) (t_part : Nat → Int32) (H : Heap) (locs : List Loc) (ls : Array Slot), R93 x3 x6 t_part → va_P G vwCl (w_X11_part Y h_t B_t t_thrown t_n t_modulus t_rows t_strands t_letters t_listedMany t_listN t_listWhat t_h t_made t_part t_table t_twists) H → va_D A (w_X11_part Y h_t B_t t_thrown t_n t_modulus t_rows t_strands t_letters t_listedMany t_listN t_listWhat t_h t_made t_part t_table t_twists) → va_S A s.heap H locs → lv_has ls 7 [(0, .ref h_t), (3, .int x3), (4, .int x4), (5, .int x5), (6, .int x6)] → W p l e R s m args below meth c H locs 0 0 Q (F0 m 93 ls []) := ⟨_, hB93 x3 x6 t_part hI, fun x3 x6 t_part H locs ls hh hP hD hS hl => ih x3 x6 t_part H locs ls hh.1 (Nat.lt_of_lt_of_le hh.2 (Nat.le_of_lt_succ hm)) hP hD hS hl⟩
                                    have J179 : ∀ (x6 : Int32) (t_part : Nat → Int32) (H : Heap) (locs : List Loc) (ls : Array Slot), pX11_part_179 R60 R69 R81 R93 K t_thrown t_n t_h t_made t_table t_twists x4 x5 x6 t_part → va_P G vwCl (w_X11_part Y h_t B_t t_thrown t_n t_modulus t_rows t_strands t_letters t_listedMany t_listN t_listWhat t_h t_made t_part t_table t_twists) H → va_D A (w_X11_part Y h_t B_t t_thrown t_n t_modulus t_rows t_strands t_letters t_listedMany t_listN t_listWhat t_h t_made t_part t_table t_twists) → va_S A s.heap H locs → lv_has ls 7 [(0, .ref h_t), (4, .int x4), (5, .int x5), (6, .int x6)] → W p l e R s m args below meth c H locs 0 0 Q (F0 m 179 ls []) := by
                                      intro x6 t_part H locs ls h hP hD hS hl
                                      refine lv_iconst (v := 1) hx hb dX11_part_179 (by decide) ?_
                                      refine lv_goto (tgt := 184) hx hb dX11_part_180 (by decide) ?_
                                      refine lv_istore_n (lv' := [(3, .int (1 : Int32)), (0, .ref h_t), (4, .int x4), (5, .int x5), (6, .int x6)]) hx hb dX11_part_184 rfl hl (by decide) rfl (fun ls hl => ?_)
                                      refine lv_iinc (v := (x6 + 1)) (lv' := [(6, .int (x6 + 1)), (3, .int (1 : Int32)), (0, .ref h_t), (4, .int x4), (5, .int x5)]) hx hb dX11_part_185 hl (k := 4) rfl rfl (by decide) rfl (fun ls hl => ?_)
                                      refine lv_goto (tgt := 93) hx hb dX11_part_188 (by decide) ?_
                                      exact rec93 (1 : Int32) (x6 + 1) t_part H locs ls h hP hD hS (lv_sub hl [2, 1, 3, 4, 0] rfl)
                                    have J151 : ∀ (x6 : Int32) (s0 : Int32) (t_part : Nat → Int32) (H : Heap) (locs : List Loc) (ls : Array Slot), pX11_part_151 R60 R69 R81 R93 K t_thrown t_n t_h t_made t_table t_twists x4 x5 x6 s0 t_part → va_P G vwCl (w_X11_part Y h_t B_t t_thrown t_n t_modulus t_rows t_strands t_letters t_listedMany t_listN t_listWhat t_h t_made t_part t_table t_twists) H → va_D A (w_X11_part Y h_t B_t t_thrown t_n t_modulus t_rows t_strands t_letters t_listedMany t_listN t_listWhat t_h t_made t_part t_table t_twists) → va_S A s.heap H locs → lv_has ls 7 [(0, .ref h_t), (4, .int x4), (5, .int x5), (6, .int x6)] → W p l e R s m args below meth c H locs 0 0 Q (F0 m 151 ls [.int s0]) := by
                                      intro x6 s0 t_part H locs ls h hP hD hS hl
                                      refine lv_istore_n (lv' := [(3, .int s0), (0, .ref h_t), (4, .int x4), (5, .int x5), (6, .int x6)]) hx hb dX11_part_151 rfl hl (by decide) rfl (fun ls hl => ?_)
                                      refine lv_aload_n hx hb dX11_part_152 rfl (lv_at hl 1 rfl) ?_
                                      refine lv_aload_n hx hb dX11_part_153 rfl (lv_at hl 1 rfl) ?_
                                      refine lv_iload hx hb dX11_part_154 (lv_at hl 4 rfl) ?_
                                      refine lv_iload hx hb dX11_part_156 (lv_at hl 2 rfl) ?_
                                      refine mc_iV ⟨hx, hb, hml, hown, hts⟩ hK hE hA hP hD hS (c_X11_by l G Y tF H.size h_t B_t t_thrown t_n t_modulus t_rows t_strands t_letters t_listedMany t_listN t_listWhat t_table x6 x4 h) (cwV 2 hts gX11_part_X11_by rfl rfl rfl (by decide +kernel) ⟨Nat.le_trans (by decide) hRf, Nat.le_trans (by decide) hRl⟩) (fun u => (w_X11_part Y h_t B_t t_thrown t_n t_modulus t_rows t_strands t_letters t_listedMany t_listN t_listWhat t_h t_made t_part t_table t_twists)) [0, 4] [1, 2, 3, 5] [4, 0, 1, 2, 5, 3] rfl rfl rfl rfl (by decide) (fun _ => rfl) rfl 0 10 rfl rfl rfl rfl hl.1 rfl (Nat.le_of_ble_eq_true rfl) dX11_part_158 (fun r158 u H locs h hP hD hS => ?_)
                                      try dsimp only at h
                                      have hP : va_P G vwCl (w_X11_part Y h_t B_t t_thrown t_n t_modulus t_rows t_strands t_letters t_listedMany t_listN t_listWhat t_h t_made t_part t_table t_twists) H := hP
                                      have hD : va_D A (w_X11_part Y h_t B_t t_thrown t_n t_modulus t_rows t_strands t_letters t_listedMany t_listN t_listWhat t_h t_made t_part t_table t_twists) := hD
                                      refine lv_aload_n hx hb dX11_part_161 rfl (lv_at hl 1 rfl) ?_
                                      refine lv_iload hx hb dX11_part_162 (lv_at hl 4 rfl) ?_
                                      refine lv_iload hx hb dX11_part_164 (lv_at hl 3 rfl) ?_
                                      refine mc_iV ⟨hx, hb, hml, hown, hts⟩ hK hE hA hP hD hS (c_X11_by l G Y tF H.size h_t B_t t_thrown t_n t_modulus t_rows t_strands t_letters t_listedMany t_listN t_listWhat t_table x6 x5 h) (cwV 2 hts gX11_part_X11_by rfl rfl rfl (by decide +kernel) ⟨Nat.le_trans (by decide) hRf, Nat.le_trans (by decide) hRl⟩) (fun u => (w_X11_part Y h_t B_t t_thrown t_n t_modulus t_rows t_strands t_letters t_listedMany t_listN t_listWhat t_h t_made t_part t_table t_twists)) [0, 4] [1, 2, 3, 5] [4, 0, 1, 2, 5, 3] rfl rfl rfl rfl (by decide) (fun _ => rfl) rfl 0 10 rfl rfl rfl rfl hl.1 rfl (Nat.le_of_ble_eq_true rfl) dX11_part_166 (fun r166 u H locs h hP hD hS => ?_)
                                      try dsimp only at h
                                      have hP : va_P G vwCl (w_X11_part Y h_t B_t t_thrown t_n t_modulus t_rows t_strands t_letters t_listedMany t_listN t_listWhat t_h t_made t_part t_table t_twists) H := hP
                                      have hD : va_D A (w_X11_part Y h_t B_t t_thrown t_n t_modulus t_rows t_strands t_letters t_listedMany t_listN t_listWhat t_h t_made t_part t_table t_twists) := hD
                                      refine mc_iV ⟨hx, hb, hml, hown, hts⟩ hK hE hA hP hD hS (c_X11_melts l G Y tF H.size h_t B_t t_thrown t_n t_modulus t_rows t_strands t_letters t_listedMany t_listN t_listWhat t_part r158 r166 h) (cwV 2 hts gX11_part_X11_melts rfl rfl rfl (by decide +kernel) ⟨Nat.le_trans (by decide) hRf, Nat.le_trans (by decide) hRl⟩) (fun u => (w_X11_part Y h_t B_t t_thrown t_n t_modulus t_rows t_strands t_letters t_listedMany t_listN t_listWhat t_h t_made u t_table t_twists)) [0, 3] [1, 2, 4, 5] [4, 0, 1, 5, 2, 3] rfl rfl rfl rfl (by decide) (fun _ => rfl) rfl 0 10 rfl rfl rfl rfl hl.1 rfl (Nat.le_of_ble_eq_true rfl) dX11_part_169 (fun r169 u H locs h hP hD hS => ?_)
                                      obtain ⟨t_part_169, rfl⟩ : ∃ z, z = u := ⟨_, rfl⟩
                                      try dsimp only at h
                                      have hP : va_P G vwCl (w_X11_part Y h_t B_t t_thrown t_n t_modulus t_rows t_strands t_letters t_listedMany t_listN t_listWhat t_h t_made t_part_169 t_table t_twists) H := hP
                                      have hD : va_D A (w_X11_part Y h_t B_t t_thrown t_n t_modulus t_rows t_strands t_letters t_listedMany t_listN t_listWhat t_h t_made t_part_169 t_table t_twists) := hD
                                      obtain ⟨ht, hf⟩ := h
                                      refine lv_if_ne (tgt := 179) hx hb dX11_part_172 (by decide) (fun c9 => ?_) (fun c9 => ?_)
                                      · have h := ht c9
                                        exact J179 x6 t_part_169 H locs ls h hP hD hS (lv_sub hl [1, 2, 3, 4] rfl)
                                      · have h := hf c9
                                        refine lv_iload_n hx hb dX11_part_175 rfl (lv_at hl 0 rfl) ?_
                                        obtain ⟨ht, hf⟩ := h
                                        refine lv_if_eq (tgt := 183) hx hb dX11_part_176 (by decide) (fun c9 => ?_) (fun c9 => ?_)
                                        · have h := ht c9
                                          refine lv_iconst (v := 0) hx hb dX11_part_183 (by decide) ?_
                                          refine lv_istore_n (lv' := [(3, .int (0 : Int32)), (0, .ref h_t), (4, .int x4), (5, .int x5), (6, .int x6)]) hx hb dX11_part_184 rfl hl (by decide) rfl (fun ls hl => ?_)
                                          refine lv_iinc (v := (x6 + 1)) (lv' := [(6, .int (x6 + 1)), (3, .int (0 : Int32)), (0, .ref h_t), (4, .int x4), (5, .int x5)]) hx hb dX11_part_185 hl (k := 4) rfl rfl (by decide) rfl (fun ls hl => ?_)
                                          refine lv_goto (tgt := 93) hx hb dX11_part_188 (by decide) ?_
                                          exact rec93 (0 : Int32) (x6 + 1) t_part_169 H locs ls h hP hD hS (lv_sub hl [2, 1, 3, 4, 0] rfl)
                                        · have h := hf c9
                                          exact J179 x6 t_part_169 H locs ls h hP hD hS (lv_sub hl [1, 2, 3, 4] rfl)
                                    have J146 : ∀ (x6 : Int32) (t_part : Nat → Int32) (H : Heap) (locs : List Loc) (ls : Array Slot), pX11_part_146 R60 R69 R81 R93 K t_thrown t_n t_h t_made t_table t_twists x4 x5 x6 t_part → va_P G vwCl (w_X11_part Y h_t B_t t_thrown t_n t_modulus t_rows t_strands t_letters t_listedMany t_listN t_listWhat t_h t_made t_part t_table t_twists) H → va_D A (w_X11_part Y h_t B_t t_thrown t_n t_modulus t_rows t_strands t_letters t_listedMany t_listN t_listWhat t_h t_made t_part t_table t_twists) → va_S A s.heap H locs → lv_has ls 7 [(0, .ref h_t), (4, .int x4), (5, .int x5), (6, .int x6)] → W p l e R s m args below meth c H locs 0 0 Q (F0 m 146 ls []) := by
                                      intro x6 t_part H locs ls h hP hD hS hl
                                      refine lv_iconst (v := 1) hx hb dX11_part_146 (by decide) ?_
                                      refine lv_goto (tgt := 151) hx hb dX11_part_147 (by decide) ?_
                                      exact J151 x6 (1 : Int32) t_part H locs ls h hP hD hS (lv_sub hl [0, 1, 2, 3] rfl)
                                    refine lv_iload hx hb dX11_part_93 (lv_at hl 4 rfl) ?_
                                    refine lv_aload_n hx hb dX11_part_95 rfl (lv_at hl 0 rfl) ?_
                                    refine va_get (D := G) (ci := 10) (v := .int t_n) (C := RX11) (T := TX11) (N := 29) hx hb hts inX11 hown hK hP 0 rfl rfl 1 (by decide) hf9 (fun _ h9 => h9) rfl dX11_part_96 ?_
                                    obtain ⟨ht, hf⟩ := h
                                    refine lv_icmp_ge (tgt := 191) hx hb dX11_part_99 (by decide) (fun c9 => ?_) (fun c9 => ?_)
                                    · have h := ht c9
                                      refine lv_iinc (v := (x5 + 1)) (lv' := [(5, .int (x5 + 1)), (0, .ref h_t), (3, .int x3), (4, .int x4), (6, .int x6)]) hx hb dX11_part_191 hl (k := 3) rfl rfl (by decide) rfl (fun ls hl => ?_)
                                      refine lv_goto (tgt := 81) hx hb dX11_part_194 (by decide) ?_
                                      exact rec81 x3 (x5 + 1) t_part H locs ls h hP hD hS (lv_sub hl [1, 2, 3, 0] rfl)
                                    · have h := hf c9
                                      refine lv_aload_n hx hb dX11_part_102 rfl (lv_at hl 0 rfl) ?_
                                      refine va_get (D := G) (ci := 10) (v := .ref (B_t 18)) (C := RX11) (T := TX11) (N := 29) hx hb hts inX11 hown hK hP 0 rfl rfl 18 (by decide) hf61 (fun _ h9 => h9) rfl dX11_part_103 ?_
                                      refine lv_iload hx hb dX11_part_106 (lv_at hl 2 rfl) ?_
                                      obtain ⟨hin, h⟩ := h
                                      refine va_iald hx hb hK hP 3 0 rfl rfl hin dX11_part_108 ?_
                                      refine lv_aload_n hx hb dX11_part_109 rfl (lv_at hl 0 rfl) ?_
                                      refine va_get (D := G) (ci := 10) (v := .ref (B_t 18)) (C := RX11) (T := TX11) (N := 29) hx hb hts inX11 hown hK hP 0 rfl rfl 18 (by decide) hf61 (fun _ h9 => h9) rfl dX11_part_110 ?_
                                      refine lv_iload hx hb dX11_part_113 (lv_at hl 3 rfl) ?_
                                      obtain ⟨hin, h⟩ := h
                                      refine va_iald hx hb hK hP 3 0 rfl rfl hin dX11_part_115 ?_
                                      obtain ⟨ht, hf⟩ := h
                                      refine lv_icmp_ne (tgt := 191) hx hb dX11_part_116 (by decide) (fun c9 => ?_) (fun c9 => ?_)
                                      · have h := ht c9
                                        refine lv_iinc (v := (x5 + 1)) (lv' := [(5, .int (x5 + 1)), (0, .ref h_t), (3, .int x3), (4, .int x4), (6, .int x6)]) hx hb dX11_part_191 hl (k := 3) rfl rfl (by decide) rfl (fun ls hl => ?_)
                                        refine lv_goto (tgt := 81) hx hb dX11_part_194 (by decide) ?_
                                        exact rec81 x3 (x5 + 1) t_part H locs ls h hP hD hS (lv_sub hl [1, 2, 3, 0] rfl)
                                      · have h := hf c9
                                        refine lv_aload_n hx hb dX11_part_119 rfl (lv_at hl 0 rfl) ?_
                                        refine lv_aload_n hx hb dX11_part_120 rfl (lv_at hl 0 rfl) ?_
                                        refine lv_iload hx hb dX11_part_121 (lv_at hl 2 rfl) ?_
                                        refine lv_iload hx hb dX11_part_123 (lv_at hl 4 rfl) ?_
                                        refine mc_iV ⟨hx, hb, hml, hown, hts⟩ hK hE hA hP hD hS (c_X11_by l G Y tF H.size h_t B_t t_thrown t_n t_modulus t_rows t_strands t_letters t_listedMany t_listN t_listWhat t_table x4 x6 h) (cwV 2 hts gX11_part_X11_by rfl rfl rfl (by decide +kernel) ⟨Nat.le_trans (by decide) hRf, Nat.le_trans (by decide) hRl⟩) (fun u => (w_X11_part Y h_t B_t t_thrown t_n t_modulus t_rows t_strands t_letters t_listedMany t_listN t_listWhat t_h t_made t_part t_table t_twists)) [0, 4] [1, 2, 3, 5] [4, 0, 1, 2, 5, 3] rfl rfl rfl rfl (by decide) (fun _ => rfl) rfl 0 10 rfl rfl rfl rfl hl.1 rfl (Nat.le_of_ble_eq_true rfl) dX11_part_125 (fun r125 u H locs h hP hD hS => ?_)
                                        try dsimp only at h
                                        have hP : va_P G vwCl (w_X11_part Y h_t B_t t_thrown t_n t_modulus t_rows t_strands t_letters t_listedMany t_listN t_listWhat t_h t_made t_part t_table t_twists) H := hP
                                        have hD : va_D A (w_X11_part Y h_t B_t t_thrown t_n t_modulus t_rows t_strands t_letters t_listedMany t_listN t_listWhat t_h t_made t_part t_table t_twists) := hD
                                        refine lv_aload_n hx hb dX11_part_128 rfl (lv_at hl 0 rfl) ?_
                                        refine lv_iload hx hb dX11_part_129 (lv_at hl 3 rfl) ?_
                                        refine lv_iload hx hb dX11_part_131 (lv_at hl 4 rfl) ?_
                                        refine mc_iV ⟨hx, hb, hml, hown, hts⟩ hK hE hA hP hD hS (c_X11_by l G Y tF H.size h_t B_t t_thrown t_n t_modulus t_rows t_strands t_letters t_listedMany t_listN t_listWhat t_table x5 x6 h) (cwV 2 hts gX11_part_X11_by rfl rfl rfl (by decide +kernel) ⟨Nat.le_trans (by decide) hRf, Nat.le_trans (by decide) hRl⟩) (fun u => (w_X11_part Y h_t B_t t_thrown t_n t_modulus t_rows t_strands t_letters t_listedMany t_listN t_listWhat t_h t_made t_part t_table t_twists)) [0, 4] [1, 2, 3, 5] [4, 0, 1, 2, 5, 3] rfl rfl rfl rfl (by decide) (fun _ => rfl) rfl 0 10 rfl rfl rfl rfl hl.1 rfl (Nat.le_of_ble_eq_true rfl) dX11_part_133 (fun r133 u H locs h hP hD hS => ?_)
                                        try dsimp only at h
                                        have hP : va_P G vwCl (w_X11_part Y h_t B_t t_thrown t_n t_modulus t_rows t_strands t_letters t_listedMany t_listN t_listWhat t_h t_made t_part t_table t_twists) H := hP
                                        have hD : va_D A (w_X11_part Y h_t B_t t_thrown t_n t_modulus t_rows t_strands t_letters t_listedMany t_listN t_listWhat t_h t_made t_part t_table t_twists) := hD
                                        refine mc_iV ⟨hx, hb, hml, hown, hts⟩ hK hE hA hP hD hS (c_X11_melts l G Y tF H.size h_t B_t t_thrown t_n t_modulus t_rows t_strands t_letters t_listedMany t_listN t_listWhat t_part r125 r133 h) (cwV 2 hts gX11_part_X11_melts rfl rfl rfl (by decide +kernel) ⟨Nat.le_trans (by decide) hRf, Nat.le_trans (by decide) hRl⟩) (fun u => (w_X11_part Y h_t B_t t_thrown t_n t_modulus t_rows t_strands t_letters t_listedMany t_listN t_listWhat t_h t_made u t_table t_twists)) [0, 3] [1, 2, 4, 5] [4, 0, 1, 5, 2, 3] rfl rfl rfl rfl (by decide) (fun _ => rfl) rfl 0 10 rfl rfl rfl rfl hl.1 rfl (Nat.le_of_ble_eq_true rfl) dX11_part_136 (fun r136 u H locs h hP hD hS => ?_)
                                        obtain ⟨t_part_136, rfl⟩ : ∃ z, z = u := ⟨_, rfl⟩
                                        try dsimp only at h
                                        have hP : va_P G vwCl (w_X11_part Y h_t B_t t_thrown t_n t_modulus t_rows t_strands t_letters t_listedMany t_listN t_listWhat t_h t_made t_part_136 t_table t_twists) H := hP
                                        have hD : va_D A (w_X11_part Y h_t B_t t_thrown t_n t_modulus t_rows t_strands t_letters t_listedMany t_listN t_listWhat t_h t_made t_part_136 t_table t_twists) := hD
                                        obtain ⟨ht, hf⟩ := h
                                        refine lv_if_ne (tgt := 146) hx hb dX11_part_139 (by decide) (fun c9 => ?_) (fun c9 => ?_)
                                        · have h := ht c9
                                          exact J146 x6 t_part_136 H locs ls h hP hD hS (lv_sub hl [0, 2, 3, 4] rfl)
                                        · have h := hf c9
                                          refine lv_iload_n hx hb dX11_part_142 rfl (lv_at hl 1 rfl) ?_
                                          obtain ⟨ht, hf⟩ := h
                                          refine lv_if_eq (tgt := 150) hx hb dX11_part_143 (by decide) (fun c9 => ?_) (fun c9 => ?_)
                                          · have h := ht c9
                                            refine lv_iconst (v := 0) hx hb dX11_part_150 (by decide) ?_
                                            exact J151 x6 (0 : Int32) t_part_136 H locs ls h hP hD hS (lv_sub hl [0, 2, 3, 4] rfl)
                                          · have h := hf c9
                                            exact J146 x6 t_part_136 H locs ls h hP hD hS (lv_sub hl [0, 2, 3, 4] rfl)
                                exact L93 x5 I93 m93 hB93 _ x3 (0 : Int32) t_part H locs ls hI93 (Nat.lt_succ_self _) hP hD hS (lv_sub hl [1, 2, 3, 4, 0] rfl)
                          exact L81 x4 I81 m81 hB81 _ x3 (0 : Int32) t_part H locs ls hI81 (Nat.lt_succ_self _) hP hD hS (lv_sub hl [1, 2, 3, 0] rfl)
                    exact L69  I69 m69 hB69 _ (0 : Int32) (0 : Int32) t_part H locs ls hI69 (Nat.lt_succ_self _) hP hD hS (lv_sub hl [2, 1, 0] rfl)
              exact L60 t_thrown t_n t_h t_made t_table t_twists I60 m60 hB60 _ r56 t_part_56 H locs ls hI60 (Nat.lt_succ_self _) hP hD hS (lv_sub hl [1, 0] rfl)
            · have h := hf c9
              refine lv_aload_n hx hb dX11_part_40 rfl (lv_at hl 0 rfl) ?_
              refine va_get (D := G) (ci := 10) (v := .ref (B_t 18)) (C := RX11) (T := TX11) (N := 29) hx hb hts inX11 hown hK hP 0 rfl rfl 18 (by decide) hf61 (fun _ h9 => h9) rfl dX11_part_41 ?_
              refine lv_iload_n hx hb dX11_part_44 rfl (lv_at hl 3 rfl) ?_
              refine lv_iload_n hx hb dX11_part_45 rfl (lv_at hl 3 rfl) ?_
              obtain ⟨hin, h⟩ := h
              refine va_iast hx hb hK hP hD hS 3 0 rfl rfl hin dX11_part_46 (fun H locs hP hD hS => ?_)
              have hP : va_P G vwCl (w_X11_part Y h_t B_t t_thrown t_n t_modulus t_rows t_strands t_letters t_listedMany t_listN t_listWhat t_h t_made (upd t_part (Int32.toNatClampNeg x3) x3) t_table t_twists) H := hP
              have hD : va_D A (w_X11_part Y h_t B_t t_thrown t_n t_modulus t_rows t_strands t_letters t_listedMany t_listN t_listWhat t_h t_made (upd t_part (Int32.toNatClampNeg x3) x3) t_table t_twists) := hD
              refine lv_iinc (v := (x3 + 1)) (lv' := [(3, .int (x3 + 1)), (0, .ref h_t), (1, .int x1), (2, .int x2)]) hx hb dX11_part_47 hl (k := 3) rfl rfl (by decide) rfl (fun ls hl => ?_)
              refine lv_goto (tgt := 32) hx hb dX11_part_50 (by decide) ?_
              exact rec32 (x3 + 1) (upd t_part (Int32.toNatClampNeg x3) x3) H locs ls h hP hD hS (lv_sub hl [1, 2, 3, 0] rfl)
        exact L32 x1 x2 (0 : Int32) t_n t_h t_made t_table t_twists I32 m32 hB32 _ (0 : Int32) t_part H locs ls hI32 (Nat.lt_succ_self _) hP hD hS (lv_sub hl [1, 2, 3, 0] rfl)
      · have h := hf c9
        refine lv_iconst (v := -1) hx hb dX11_part_28 (by decide) ?_
        exact hret (-1 : Int32) (0 : Int32) t_n t_h t_made t_part t_table t_twists H locs ls _ hP hD hS h dX11_part_29

set_option maxHeartbeats 20000000 in
set_option maxRecDepth 100000 in
theorem c_X11_part (l : Launch) (G : va_G) (Y : Nat → ClassId) (tF sz : Nat) (h_t : Nat) (B_t : Nat → Nat) (t_thrown : Int32) (t_n : Int32) (t_modulus : Int32) (t_rows : Int32) (t_strands : Int32) (t_letters : Int32) (t_listedMany : Int32) (t_listN : Int32) (t_listWhat : Int32) (t_h : Nat → Int32) (t_made : Nat → Int32) (t_part : Nat → Int32) (t_table : Nat → Int32) (t_twists : Nat → Int32) (x1 : Int32) (x2 : Int32) {K : Int32 → Int32 → Int32 → (Nat → Int32) → (Nat → Int32) → (Nat → Int32) → (Nat → Int32) → (Nat → Int32) → Prop} (h : pX11_part t_thrown t_n t_h t_made t_part t_table t_twists x1 x2 K) : Met l yX11_part wsX11_part ({ frames := 3, cells := 0, slots := 0, locals := 65 }) (PcM G Y tF sz (w_X11_part Y h_t B_t t_thrown t_n t_modulus t_rows t_strands t_letters t_listedMany t_listN t_listWhat t_h t_made t_part t_table t_twists) [.ref h_t, .int x1, .int x2]) (va_Qi (fun (r : Int32) (u : Int32 × Int32 × (Nat → Int32) × (Nat → Int32) × (Nat → Int32) × (Nat → Int32) × (Nat → Int32)) => K r u.1 u.2.1 u.2.2.1 u.2.2.2.1 u.2.2.2.2.1 u.2.2.2.2.2.1 u.2.2.2.2.2.2) (fun u t => BM G Y (va_A (w_X11_part Y h_t B_t t_thrown t_n t_modulus t_rows t_strands t_letters t_listedMany t_listN t_listWhat t_h t_made t_part t_table t_twists) sz) (w_X11_part Y h_t B_t u.1 u.2.1 t_modulus t_rows t_strands t_letters t_listedMany t_listN t_listWhat u.2.2.1 u.2.2.2.1 u.2.2.2.2.1 u.2.2.2.2.2.1 u.2.2.2.2.2.2) t) (va_A (w_X11_part Y h_t B_t t_thrown t_n t_modulus t_rows t_strands t_letters t_listedMany t_listN t_listWhat t_h t_made t_part t_table t_twists) sz)) 0 0 (va_A (w_X11_part Y h_t B_t t_thrown t_n t_modulus t_rows t_strands t_letters t_listedMany t_listN t_listWhat t_h t_made t_part t_table t_twists) sz) := by
  refine Met.ofW (cc := cX11_part) (maxL := 7) (ret := (some .int)) (by decide +kernel) rfl ?_
  intro p e s m args below meth c s₁ B hml hv
  obtain ⟨rfl, hsz, hP, hK, hD0, hE⟩ := hv
  have hts := atoms_spec (ws := wsX11_part) B.pre
  have hown : s.vm.findClass RX11 = some m.cls := findClass_of_methodNamed B.named
  have hlocks := B.notSynchronized
  subst hsz
  have hD := hD0.self (sz := s.heap.size)
  exact wk_X11_part h_t B_t t_thrown t_n t_modulus t_rows t_strands t_letters t_listedMany t_listN t_listWhat t_h t_made t_part t_table t_twists x1 x2 B.exec B.bytes hml hown hts hK hE (fun q h => Or.inr h) (Nat.le_refl _) (Nat.le_refl _) (fun r t_thrown t_n t_h t_made t_part t_table t_twists H locs ls pc hP hD hS hk hd => W.iret (v := r) B.exec B.bytes B.returns (fun t ht hW => ⟨⟨r, (t_thrown, t_n, t_h, t_made, t_part, t_table, t_twists), rfl, hk, by rw [ht]; exact hP, va_K.moved hW.alike hK, hD⟩, hS.F ht⟩) hS.2.2 hd) hP hD h

abbrev w_X11_within (Y : Nat → ClassId) (h_t : Nat) (B_t : Nat → Nat) (t_thrown : Int32) (t_n : Int32) (t_modulus : Int32) (t_rows : Int32) (t_strands : Int32) (t_letters : Int32) (t_listedMany : Int32) (t_listN : Int32) (t_listWhat : Int32) (t_row : Nat → Int32) (t_table : Nat → Int32) : va_W := [(h_t, .inr (10, [.int t_thrown, .int t_n, .ref (B_t 2), .int t_modulus, .ref (B_t 4), .ref (B_t 5), .ref (B_t 6), .ref (B_t 7), .ref (B_t 8), .ref (B_t 9), .ref (B_t 10), .int t_rows, .ref (B_t 12), .ref (B_t 13), .ref (B_t 14), .ref (B_t 15), .ref (B_t 16), .ref (B_t 17), .ref (B_t 18), .ref (B_t 19), .int t_strands, .int t_letters, .ref (B_t 22), .ref (B_t 23), .ref (B_t 24), .ref (B_t 25), .int t_listedMany, .int t_listN, .int t_listWhat])), ((B_t 12), .inl (Y 0, 8, .inl t_row)), ((B_t 2), .inl (Y 0, 64, .inl t_table))]

set_option maxHeartbeats 20000000 in
set_option maxRecDepth 100000 in
theorem wk_X11_within {p : Program} {l : Launch} {e : Env} {R : Room} {s : State} {m : MethodId} {args : Array Value} {below : List Frame} {meth : Method} {c : Code} {Q : State → Prop} {G : va_G} {Y : Nat → ClassId} {tF : Nat} {A : Nat → Prop} (h_t : Nat) (B_t : Nat → Nat) (t_thrown : Int32) (t_n : Int32) (t_modulus : Int32) (t_rows : Int32) (t_strands : Int32) (t_letters : Int32) (t_listedMany : Int32) (t_listN : Int32) (t_listWhat : Int32) (t_row : Nat → Int32) (t_table : Nat → Int32) (x1 : Int32) {K : Int32 → Int32 → Int32 → (Nat → Int32) → Prop} (hx : p.tables.exec = Jvm.exec) (hb : c.code = cX11_within) (hml : c.maxLocals = 6) (hown : s.vm.findClass RX11 = some m.cls) (hts : ∀ w ∈ wsX11_within, w.before args s = true) (hK : va_K G vwCl (tyL Y) s) (hE : Ev A tF s) (hA : ∀ q, s.heap.size ≤ q → A q) (hRf : 1 ≤ R.frames) (hRl : 25 ≤ R.locals) (hret : ∀ (r : Int32) (t_thrown : Int32) (t_rows : Int32) (t_row : Nat → Int32) (H : Heap) (locs : List Loc) (ls : Array Slot) (pc : Nat), va_P G vwCl (w_X11_within Y h_t B_t t_thrown t_n t_modulus t_rows t_strands t_letters t_listedMany t_listN t_listWhat t_row t_table) H → va_D A (w_X11_within Y h_t B_t t_thrown t_n t_modulus t_rows t_strands t_letters t_listedMany t_listN t_listWhat t_row t_table) → va_S A s.heap H locs → K r t_thrown t_rows t_row → decode cX11_within pc = .ok (.ireturn, 1) → W p l e R s m args below meth c H locs 0 0 Q (F0 m pc ls [.int r])) (hP : va_P G vwCl (w_X11_within Y h_t B_t t_thrown t_n t_modulus t_rows t_strands t_letters t_listedMany t_listN t_listWhat t_row t_table) s.heap) (hD : va_D A (w_X11_within Y h_t B_t t_thrown t_n t_modulus t_rows t_strands t_letters t_listedMany t_listN t_listWhat t_row t_table)) (h : pX11_within t_thrown t_n t_rows t_row t_table x1 K) : W p l e R s m args below meth c s.heap [] 0 0 Q (entryFrame m ([.ref h_t, .int x1] : List Value).toArray 6) := by
  have inX11 : ∀ w ∈ u_ws RX11 TX11 29, w ∈ wsX11_within := by decide +kernel
  have hf144 := hts (.fieldLink RX11 144 "RackBenchModel" "rows" "I") (by decide +kernel)
  have hf41 := hts (.fieldLink RX11 41 "RackBenchModel" "row" "[I") (by decide +kernel)
  have hf83 := hts (.fieldLink RX11 83 "RackBenchModel" "thrown" "I") (by decide +kernel)
  have hf9 := hts (.fieldLink RX11 9 "RackBenchModel" "n" "I") (by decide +kernel)
  have hl := lv_entry ([.ref h_t, .int x1]) (n := 6) (Nat.le_of_ble_eq_true rfl)
  rw [lg_entry_eq]
  generalize (lg_sl ([.ref h_t, .int x1]) ++ List.replicate (6 - (lg_sl ([.ref h_t, .int x1])).length) Slot.unset).toArray = ls at hl ⊢
  have hl : lv_has ls 6 [(0, .ref h_t), (1, .int x1)] := hl
  generalize hH0 : s.heap = H at hP ⊢
  have hS : va_S A s.heap H [] := by rw [← hH0]; exact va_S.rf
  clear hH0
  generalize ([] : List Loc) = locs at hS ⊢
  refine lv_aload_n hx hb dX11_within_0 rfl (lv_at hl 0 rfl) ?_
  refine lv_iconst (v := 0) hx hb dX11_within_1 (by decide) ?_
  refine va_put (D := G) (ci := 10) (v := .int (0 : Int32)) (ty := .int) (C := RX11) (T := TX11) (N := 29) hx hb hts inX11 tyX11 tyX11_ok nmX11 hown hK hP hD hS 0 rfl rfl 0 (by decide) hf83 (fun _ h9 => h9) rfl (by decide +kernel) rfl rfl (Nat.le_of_ble_eq_true rfl) dX11_within_2 (fun H locs hP hD hS => ?_)
  have hP : va_P G vwCl (w_X11_within Y h_t B_t (0 : Int32) t_n t_modulus t_rows t_strands t_letters t_listedMany t_listN t_listWhat t_row t_table) H := hP
  have hD : va_D A (w_X11_within Y h_t B_t (0 : Int32) t_n t_modulus t_rows t_strands t_letters t_listedMany t_listN t_listWhat t_row t_table) := hD
  refine lv_iload_n hx hb dX11_within_5 rfl (lv_at hl 1 rfl) ?_
  refine lv_i2l hx hb dX11_within_6 rfl ?_
  refine lv_lconst (v := 1) hx hb dX11_within_7 (by decide) ?_
  refine lv_iconst (v := 1) hx hb dX11_within_8 (by decide) ?_
  refine lv_aload_n hx hb dX11_within_9 rfl (lv_at hl 0 rfl) ?_
  refine va_get (D := G) (ci := 10) (v := .int t_n) (C := RX11) (T := TX11) (N := 29) hx hb hts inX11 hown hK hP 0 rfl rfl 1 (by decide) hf9 (fun _ h9 => h9) rfl dX11_within_10 ?_
  refine lv_ishl hx hb dX11_within_13 ?_
  refine lv_iconst (v := 1) hx hb dX11_within_14 (by decide) ?_
  refine lv_isub hx hb dX11_within_15 ?_
  refine lv_i2l hx hb dX11_within_16 rfl ?_
  refine mc_iS ⟨hx, hb, hml, hown, hts⟩ hK hE hA hP hD hS (c_X11_in l G Y tF H.size (Int32.toInt64 x1) (1 : Int64) (Int32.toInt64 (((1 : Int32) <<< (t_n &&& 31)) - (1 : Int32))) h) (va_cwS 3 hts gX11_within_X11_in rfl rfl rfl (by decide +kernel) ⟨Nat.le_trans (by decide) hRf, Nat.le_trans (by decide) hRl⟩) (fun u => (w_X11_within Y h_t B_t (0 : Int32) t_n t_modulus t_rows t_strands t_letters t_listedMany t_listN t_listWhat t_row t_table)) [] [0, 1, 2] [0, 1, 2] rfl rfl rfl rfl (by decide) (fun _ => rfl) rfl rfl hl.1 rfl (Nat.le_of_ble_eq_true rfl) dX11_within_17 (fun r17 u H locs h hP hD hS => ?_)
  try dsimp only at h
  have hP : va_P G vwCl (w_X11_within Y h_t B_t (0 : Int32) t_n t_modulus t_rows t_strands t_letters t_listedMany t_listN t_listWhat t_row t_table) H := hP
  have hD : va_D A (w_X11_within Y h_t B_t (0 : Int32) t_n t_modulus t_rows t_strands t_letters t_listedMany t_listN t_listWhat t_row t_table) := hD
  obtain ⟨ht, hf⟩ := h
  refine lv_if_ne (tgt := 25) hx hb dX11_within_20 (by decide) (fun c9 => ?_) (fun c9 => ?_)
  · have h := ht c9
    refine lv_iload_n hx hb dX11_within_25 rfl (lv_at hl 1 rfl) ?_
    refine lv_istore_n (lv' := [(2, .int x1), (0, .ref h_t), (1, .int x1)]) hx hb dX11_within_26 rfl hl (by decide) rfl (fun ls hl => ?_)
    refine lv_iconst (v := 0) hx hb dX11_within_27 (by decide) ?_
    refine lv_istore_n (lv' := [(3, .int (0 : Int32)), (2, .int x1), (0, .ref h_t), (1, .int x1)]) hx hb dX11_within_28 rfl hl (by decide) rfl (fun ls hl => ?_)
    obtain ⟨I29, m29, hI29, hB29⟩ := h
    have L29 : ∀ (t_thrown : Int32) (t_rows : Int32) (t_row : Nat → Int32) (I29 : Int32 → Int32 → Prop) (m29 : Int32 → Int32 → Nat), (∀ (x2 : Int32) (x3 : Int32), I29 x2 x3 → pX11_within_29 t_n t_table K t_thrown t_rows t_row x2 x3 (fun x2' x3' => I29 x2' x3' ∧ m29 x2' x3' < m29 x2 x3)) → ∀ (n : Nat) (x2 : Int32) (x3 : Int32) (H : Heap) (locs : List Loc) (ls : Array Slot), I29 x2 x3 → m29 x2 x3 < n → va_P G vwCl (w_X11_within Y h_t B_t t_thrown t_n t_modulus t_rows t_strands t_letters t_listedMany t_listN t_listWhat t_row t_table) H → va_D A (w_X11_within Y h_t B_t t_thrown t_n t_modulus t_rows t_strands t_letters t_listedMany t_listN t_listWhat t_row t_table) → va_S A s.heap H locs → lv_has ls 6 [(0, .ref h_t), (2, .int x2), (3, .int x3)] → W p l e R s m args below meth c H locs 0 0 Q (F0 m 29 ls []) := by
      intro t_thrown t_rows t_row I29 m29 hB29 n
      induction n with
      | zero => intro x2 x3 H locs ls _ hm; exact absurd hm (Nat.not_lt_zero _)
      | succ n ih =>
        intro x2 x3 H locs ls hI hm hP hD hS hl
        obtain ⟨R29, h, rec29⟩ : ∃ R29 : Int32 → Int32 → Prop, pX11_within_29 t_n t_table K t_thrown t_rows t_row x2 x3 R29 ∧ ∀ (x2 : Int32) (x3 : Int32) (H : Heap) (locs : List Loc) (ls : Array Slot), R29 x2 x3 → va_P G vwCl (w_X11_within Y h_t B_t t_thrown t_n t_modulus t_rows t_strands t_letters t_listedMany t_listN t_listWhat t_row t_table) H → va_D A (w_X11_within Y h_t B_t t_thrown t_n t_modulus t_rows t_strands t_letters t_listedMany t_listN t_listWhat t_row t_table) → va_S A s.heap H locs → lv_has ls 6 [(0, .ref h_t), (2, .int x2), (3, .int x3)] → W p l e R s m args below meth c H locs 0 0 Q (F0 m 29 ls []) := ⟨_, hB29 x2 x3 hI, fun x2 x3 H locs ls hh hP hD hS hl => ih x2 x3 H locs ls hh.1 (Nat.lt_of_lt_of_le hh.2 (Nat.le_of_lt_succ hm)) hP hD hS hl⟩
        refine lv_iload_n hx hb dX11_within_29 rfl (lv_at hl 2 rfl) ?_
        refine lv_aload_n hx hb dX11_within_30 rfl (lv_at hl 0 rfl) ?_
        refine va_get (D := G) (ci := 10) (v := .int t_n) (C := RX11) (T := TX11) (N := 29) hx hb hts inX11 hown hK hP 0 rfl rfl 1 (by decide) hf9 (fun _ h9 => h9) rfl dX11_within_31 ?_
        obtain ⟨ht, hf⟩ := h
        refine lv_icmp_ge (tgt := 111) hx hb dX11_within_34 (by decide) (fun c9 => ?_) (fun c9 => ?_)
        · have h := ht c9
          refine lv_aload_n hx hb dX11_within_111 rfl (lv_at hl 0 rfl) ?_
          refine lv_iconst (v := 0) hx hb dX11_within_112 (by decide) ?_
          refine va_put (D := G) (ci := 10) (v := .int (0 : Int32)) (ty := .int) (C := RX11) (T := TX11) (N := 29) hx hb hts inX11 tyX11 tyX11_ok nmX11 hown hK hP hD hS 0 rfl rfl 11 (by decide) hf144 (fun _ h9 => h9) rfl (by decide +kernel) rfl rfl (Nat.le_of_ble_eq_true rfl) dX11_within_113 (fun H locs hP hD hS => ?_)
          have hP : va_P G vwCl (w_X11_within Y h_t B_t t_thrown t_n t_modulus (0 : Int32) t_strands t_letters t_listedMany t_listN t_listWhat t_row t_table) H := hP
          have hD : va_D A (w_X11_within Y h_t B_t t_thrown t_n t_modulus (0 : Int32) t_strands t_letters t_listedMany t_listN t_listWhat t_row t_table) := hD
          refine lv_iconst (v := 0) hx hb dX11_within_116 (by decide) ?_
          refine lv_istore_n (lv' := [(3, .int (0 : Int32)), (0, .ref h_t), (2, .int x2)]) hx hb dX11_within_117 rfl hl (by decide) rfl (fun ls hl => ?_)
          obtain ⟨I118, m118, hI118, hB118⟩ := h
          have L118 : ∀ (x2 : Int32) (t_thrown : Int32) (I118 : Int32 → Int32 → (Nat → Int32) → Prop) (m118 : Int32 → Int32 → (Nat → Int32) → Nat), (∀ (x3 : Int32) (t_rows : Int32) (t_row : Nat → Int32), I118 x3 t_rows t_row → pX11_within_118 t_n t_table R29 K x2 t_thrown x3 t_rows t_row (fun x3' t_rows' t_row' => I118 x3' t_rows' t_row' ∧ m118 x3' t_rows' t_row' < m118 x3 t_rows t_row)) → ∀ (n : Nat) (x3 : Int32) (t_rows : Int32) (t_row : Nat → Int32) (H : Heap) (locs : List Loc) (ls : Array Slot), I118 x3 t_rows t_row → m118 x3 t_rows t_row < n → va_P G vwCl (w_X11_within Y h_t B_t t_thrown t_n t_modulus t_rows t_strands t_letters t_listedMany t_listN t_listWhat t_row t_table) H → va_D A (w_X11_within Y h_t B_t t_thrown t_n t_modulus t_rows t_strands t_letters t_listedMany t_listN t_listWhat t_row t_table) → va_S A s.heap H locs → lv_has ls 6 [(0, .ref h_t), (2, .int x2), (3, .int x3)] → W p l e R s m args below meth c H locs 0 0 Q (F0 m 118 ls []) := by
            intro x2 t_thrown I118 m118 hB118 n
            induction n with
            | zero => intro x3 t_rows t_row H locs ls _ hm; exact absurd hm (Nat.not_lt_zero _)
            | succ n ih =>
              intro x3 t_rows t_row H locs ls hI hm hP hD hS hl
              obtain ⟨R118, h, rec118⟩ : ∃ R118 : Int32 → Int32 → (Nat → Int32) → Prop, pX11_within_118 t_n t_table R29 K x2 t_thrown x3 t_rows t_row R118 ∧ ∀ (x3 : Int32) (t_rows : Int32) (t_row : Nat → Int32) (H : Heap) (locs : List Loc) (ls : Array Slot), R118 x3 t_rows t_row → va_P G vwCl (w_X11_within Y h_t B_t t_thrown t_n t_modulus t_rows t_strands t_letters t_listedMany t_listN t_listWhat t_row t_table) H → va_D A (w_X11_within Y h_t B_t t_thrown t_n t_modulus t_rows t_strands t_letters t_listedMany t_listN t_listWhat t_row t_table) → va_S A s.heap H locs → lv_has ls 6 [(0, .ref h_t), (2, .int x2), (3, .int x3)] → W p l e R s m args below meth c H locs 0 0 Q (F0 m 118 ls []) := ⟨_, hB118 x3 t_rows t_row hI, fun x3 t_rows t_row H locs ls hh hP hD hS hl => ih x3 t_rows t_row H locs ls hh.1 (Nat.lt_of_lt_of_le hh.2 (Nat.le_of_lt_succ hm)) hP hD hS hl⟩
              refine lv_iload_n hx hb dX11_within_118 rfl (lv_at hl 2 rfl) ?_
              refine lv_aload_n hx hb dX11_within_119 rfl (lv_at hl 0 rfl) ?_
              refine va_get (D := G) (ci := 10) (v := .int t_n) (C := RX11) (T := TX11) (N := 29) hx hb hts inX11 hown hK hP 0 rfl rfl 1 (by decide) hf9 (fun _ h9 => h9) rfl dX11_within_120 ?_
              obtain ⟨ht, hf⟩ := h
              refine lv_icmp_ge (tgt := 161) hx hb dX11_within_123 (by decide) (fun c9 => ?_) (fun c9 => ?_)
              · have h := ht c9
                refine lv_aload_n hx hb dX11_within_161 rfl (lv_at hl 0 rfl) ?_
                refine va_get (D := G) (ci := 10) (v := .int t_rows) (C := RX11) (T := TX11) (N := 29) hx hb hts inX11 hown hK hP 0 rfl rfl 11 (by decide) hf144 (fun _ h9 => h9) rfl dX11_within_162 ?_
                exact hret t_rows t_thrown t_rows t_row H locs ls _ hP hD hS h dX11_within_165
              · have h := hf c9
                refine lv_iload_n hx hb dX11_within_126 rfl (lv_at hl 1 rfl) ?_
                refine lv_iload_n hx hb dX11_within_127 rfl (lv_at hl 2 rfl) ?_
                refine lv_ishr hx hb dX11_within_128 ?_
                refine lv_iconst (v := 1) hx hb dX11_within_129 (by decide) ?_
                refine lv_iand hx hb dX11_within_130 ?_
                refine lv_iconst (v := 1) hx hb dX11_within_131 (by decide) ?_
                obtain ⟨ht, hf⟩ := h
                refine lv_icmp_ne (tgt := 155) hx hb dX11_within_132 (by decide) (fun c9 => ?_) (fun c9 => ?_)
                · have h := ht c9
                  refine lv_iinc (v := (x3 + 1)) (lv' := [(3, .int (x3 + 1)), (0, .ref h_t), (2, .int x2)]) hx hb dX11_within_155 hl (k := 2) rfl rfl (by decide) rfl (fun ls hl => ?_)
                  refine lv_goto (tgt := 118) hx hb dX11_within_158 (by decide) ?_
                  exact rec118 (x3 + 1) t_rows t_row H locs ls h hP hD hS (lv_sub hl [1, 2, 0] rfl)
                · have h := hf c9
                  refine lv_aload_n hx hb dX11_within_135 rfl (lv_at hl 0 rfl) ?_
                  refine va_get (D := G) (ci := 10) (v := .ref (B_t 12)) (C := RX11) (T := TX11) (N := 29) hx hb hts inX11 hown hK hP 0 rfl rfl 12 (by decide) hf41 (fun _ h9 => h9) rfl dX11_within_136 ?_
                  refine lv_aload_n hx hb dX11_within_139 rfl (lv_at hl 0 rfl) ?_
                  refine va_get (D := G) (ci := 10) (v := .int t_rows) (C := RX11) (T := TX11) (N := 29) hx hb hts inX11 hown hK hP 0 rfl rfl 11 (by decide) hf144 (fun _ h9 => h9) rfl dX11_within_140 ?_
                  refine lv_iload_n hx hb dX11_within_143 rfl (lv_at hl 2 rfl) ?_
                  obtain ⟨hin, h⟩ := h
                  refine va_iast hx hb hK hP hD hS 1 0 rfl rfl hin dX11_within_144 (fun H locs hP hD hS => ?_)
                  have hP : va_P G vwCl (w_X11_within Y h_t B_t t_thrown t_n t_modulus t_rows t_strands t_letters t_listedMany t_listN t_listWhat (upd t_row (Int32.toNatClampNeg t_rows) x3) t_table) H := hP
                  have hD : va_D A (w_X11_within Y h_t B_t t_thrown t_n t_modulus t_rows t_strands t_letters t_listedMany t_listN t_listWhat (upd t_row (Int32.toNatClampNeg t_rows) x3) t_table) := hD
                  refine lv_aload_n hx hb dX11_within_145 rfl (lv_at hl 0 rfl) ?_
                  refine lv_dup hx hb dX11_within_146 rfl ?_
                  refine va_get (D := G) (ci := 10) (v := .int t_rows) (C := RX11) (T := TX11) (N := 29) hx hb hts inX11 hown hK hP 0 rfl rfl 11 (by decide) hf144 (fun _ h9 => h9) rfl dX11_within_147 ?_
                  refine lv_iconst (v := 1) hx hb dX11_within_150 (by decide) ?_
                  refine lv_iadd hx hb dX11_within_151 ?_
                  refine va_put (D := G) (ci := 10) (v := .int (t_rows + (1 : Int32))) (ty := .int) (C := RX11) (T := TX11) (N := 29) hx hb hts inX11 tyX11 tyX11_ok nmX11 hown hK hP hD hS 0 rfl rfl 11 (by decide) hf144 (fun _ h9 => h9) rfl (by decide +kernel) rfl rfl (Nat.le_of_ble_eq_true rfl) dX11_within_152 (fun H locs hP hD hS => ?_)
                  have hP : va_P G vwCl (w_X11_within Y h_t B_t t_thrown t_n t_modulus (t_rows + (1 : Int32)) t_strands t_letters t_listedMany t_listN t_listWhat (upd t_row (Int32.toNatClampNeg t_rows) x3) t_table) H := hP
                  have hD : va_D A (w_X11_within Y h_t B_t t_thrown t_n t_modulus (t_rows + (1 : Int32)) t_strands t_letters t_listedMany t_listN t_listWhat (upd t_row (Int32.toNatClampNeg t_rows) x3) t_table) := hD
                  refine lv_iinc (v := (x3 + 1)) (lv' := [(3, .int (x3 + 1)), (0, .ref h_t), (2, .int x2)]) hx hb dX11_within_155 hl (k := 2) rfl rfl (by decide) rfl (fun ls hl => ?_)
                  refine lv_goto (tgt := 118) hx hb dX11_within_158 (by decide) ?_
                  exact rec118 (x3 + 1) (t_rows + (1 : Int32)) (upd t_row (Int32.toNatClampNeg t_rows) x3) H locs ls h hP hD hS (lv_sub hl [1, 2, 0] rfl)
          exact L118 x2 t_thrown I118 m118 hB118 _ (0 : Int32) (0 : Int32) t_row H locs ls hI118 (Nat.lt_succ_self _) hP hD hS (lv_sub hl [1, 2, 0] rfl)
        · have h := hf c9
          refine lv_iconst (v := 0) hx hb dX11_within_37 (by decide) ?_
          refine lv_istore (lv' := [(4, .int (0 : Int32)), (0, .ref h_t), (2, .int x2), (3, .int x3)]) hx hb dX11_within_38 hl (by decide) rfl (fun ls hl => ?_)
          obtain ⟨I40, m40, hI40, hB40⟩ := h
          have L40 : ∀ (x3 : Int32) (I40 : Int32 → Int32 → Prop) (m40 : Int32 → Int32 → Nat), (∀ (x2 : Int32) (x4 : Int32), I40 x2 x4 → pX11_within_40 t_n t_table R29 K t_thrown t_rows t_row x3 x2 x4 (fun x2' x4' => I40 x2' x4' ∧ m40 x2' x4' < m40 x2 x4)) → ∀ (n : Nat) (x2 : Int32) (x4 : Int32) (H : Heap) (locs : List Loc) (ls : Array Slot), I40 x2 x4 → m40 x2 x4 < n → va_P G vwCl (w_X11_within Y h_t B_t t_thrown t_n t_modulus t_rows t_strands t_letters t_listedMany t_listN t_listWhat t_row t_table) H → va_D A (w_X11_within Y h_t B_t t_thrown t_n t_modulus t_rows t_strands t_letters t_listedMany t_listN t_listWhat t_row t_table) → va_S A s.heap H locs → lv_has ls 6 [(0, .ref h_t), (2, .int x2), (3, .int x3), (4, .int x4)] → W p l e R s m args below meth c H locs 0 0 Q (F0 m 40 ls []) := by
            intro x3 I40 m40 hB40 n
            induction n with
            | zero => intro x2 x4 H locs ls _ hm; exact absurd hm (Nat.not_lt_zero _)
            | succ n ih =>
              intro x2 x4 H locs ls hI hm hP hD hS hl
              obtain ⟨R40, h, rec40⟩ : ∃ R40 : Int32 → Int32 → Prop, pX11_within_40 t_n t_table R29 K t_thrown t_rows t_row x3 x2 x4 R40 ∧ ∀ (x2 : Int32) (x4 : Int32) (H : Heap) (locs : List Loc) (ls : Array Slot), R40 x2 x4 → va_P G vwCl (w_X11_within Y h_t B_t t_thrown t_n t_modulus t_rows t_strands t_letters t_listedMany t_listN t_listWhat t_row t_table) H → va_D A (w_X11_within Y h_t B_t t_thrown t_n t_modulus t_rows t_strands t_letters t_listedMany t_listN t_listWhat t_row t_table) → va_S A s.heap H locs → lv_has ls 6 [(0, .ref h_t), (2, .int x2), (3, .int x3), (4, .int x4)] → W p l e R s m args below meth c H locs 0 0 Q (F0 m 40 ls []) := ⟨_, hB40 x2 x4 hI, fun x2 x4 H locs ls hh hP hD hS hl => ih x2 x4 H locs ls hh.1 (Nat.lt_of_lt_of_le hh.2 (Nat.le_of_lt_succ hm)) hP hD hS hl⟩
              refine lv_iload hx hb dX11_within_40 (lv_at hl 3 rfl) ?_
              refine lv_aload_n hx hb dX11_within_42 rfl (lv_at hl 0 rfl) ?_
              refine va_get (D := G) (ci := 10) (v := .int t_n) (C := RX11) (T := TX11) (N := 29) hx hb hts inX11 hown hK hP 0 rfl rfl 1 (by decide) hf9 (fun _ h9 => h9) rfl dX11_within_43 ?_
              obtain ⟨ht, hf⟩ := h
              refine lv_icmp_ge (tgt := 105) hx hb dX11_within_46 (by decide) (fun c9 => ?_) (fun c9 => ?_)
              · have h := ht c9
                refine lv_iinc (v := (x3 + 1)) (lv' := [(3, .int (x3 + 1)), (0, .ref h_t), (2, .int x2), (4, .int x4)]) hx hb dX11_within_105 hl (k := 2) rfl rfl (by decide) rfl (fun ls hl => ?_)
                refine lv_goto (tgt := 29) hx hb dX11_within_108 (by decide) ?_
                exact rec29 x2 (x3 + 1) H locs ls h hP hD hS (lv_sub hl [1, 2, 0] rfl)
              · have h := hf c9
                refine lv_iconst (v := 0) hx hb dX11_within_49 (by decide) ?_
                refine lv_istore (lv' := [(5, .int (0 : Int32)), (0, .ref h_t), (2, .int x2), (3, .int x3), (4, .int x4)]) hx hb dX11_within_50 hl (by decide) rfl (fun ls hl => ?_)
                obtain ⟨I52, m52, hI52, hB52⟩ := h
                have L52 : ∀ (x4 : Int32) (I52 : Int32 → Int32 → Prop) (m52 : Int32 → Int32 → Nat), (∀ (x2 : Int32) (x5 : Int32), I52 x2 x5 → pX11_within_52 t_n t_table R29 R40 K t_thrown t_rows t_row x3 x4 x2 x5 (fun x2' x5' => I52 x2' x5' ∧ m52 x2' x5' < m52 x2 x5)) → ∀ (n : Nat) (x2 : Int32) (x5 : Int32) (H : Heap) (locs : List Loc) (ls : Array Slot), I52 x2 x5 → m52 x2 x5 < n → va_P G vwCl (w_X11_within Y h_t B_t t_thrown t_n t_modulus t_rows t_strands t_letters t_listedMany t_listN t_listWhat t_row t_table) H → va_D A (w_X11_within Y h_t B_t t_thrown t_n t_modulus t_rows t_strands t_letters t_listedMany t_listN t_listWhat t_row t_table) → va_S A s.heap H locs → lv_has ls 6 [(0, .ref h_t), (2, .int x2), (3, .int x3), (4, .int x4), (5, .int x5)] → W p l e R s m args below meth c H locs 0 0 Q (F0 m 52 ls []) := by
                  intro x4 I52 m52 hB52 n
                  induction n with
                  | zero => intro x2 x5 H locs ls _ hm; exact absurd hm (Nat.not_lt_zero _)
                  | succ n ih =>
                    intro x2 x5 H locs ls hI hm hP hD hS hl
                    obtain ⟨R52, h, rec52⟩ : ∃ R52 : Int32 → Int32 → Prop, pX11_within_52 t_n t_table R29 R40 K t_thrown t_rows t_row x3 x4 x2 x5 R52 ∧ ∀ (x2 : Int32) (x5 : Int32) (H : Heap) (locs : List Loc) (ls : Array Slot), R52 x2 x5 → va_P G vwCl (w_X11_within Y h_t B_t t_thrown t_n t_modulus t_rows t_strands t_letters t_listedMany t_listN t_listWhat t_row t_table) H → va_D A (w_X11_within Y h_t B_t t_thrown t_n t_modulus t_rows t_strands t_letters t_listedMany t_listN t_listWhat t_row t_table) → va_S A s.heap H locs → lv_has ls 6 [(0, .ref h_t), (2, .int x2), (3, .int x3), (4, .int x4), (5, .int x5)] → W p l e R s m args below meth c H locs 0 0 Q (F0 m 52 ls []) := ⟨_, hB52 x2 x5 hI, fun x2 x5 H locs ls hh hP hD hS hl => ih x2 x5 H locs ls hh.1 (Nat.lt_of_lt_of_le hh.2 (Nat.le_of_lt_succ hm)) hP hD hS hl⟩
                    refine lv_iload hx hb dX11_within_52 (lv_at hl 4 rfl) ?_
                    refine lv_aload_n hx hb dX11_within_54 rfl (lv_at hl 0 rfl) ?_
                    refine va_get (D := G) (ci := 10) (v := .int t_n) (C := RX11) (T := TX11) (N := 29) hx hb hts inX11 hown hK hP 0 rfl rfl 1 (by decide) hf9 (fun _ h9 => h9) rfl dX11_within_55 ?_
                    obtain ⟨ht, hf⟩ := h
                    refine lv_icmp_ge (tgt := 99) hx hb dX11_within_58 (by decide) (fun c9 => ?_) (fun c9 => ?_)
                    · have h := ht c9
                      refine lv_iinc (v := (x4 + 1)) (lv' := [(4, .int (x4 + 1)), (0, .ref h_t), (2, .int x2), (3, .int x3), (5, .int x5)]) hx hb dX11_within_99 hl (k := 3) rfl rfl (by decide) rfl (fun ls hl => ?_)
                      refine lv_goto (tgt := 40) hx hb dX11_within_102 (by decide) ?_
                      exact rec40 x2 (x4 + 1) H locs ls h hP hD hS (lv_sub hl [1, 2, 3, 0] rfl)
                    · have h := hf c9
                      refine lv_iload_n hx hb dX11_within_61 rfl (lv_at hl 1 rfl) ?_
                      refine lv_iload_n hx hb dX11_within_62 rfl (lv_at hl 1 rfl) ?_
                      refine lv_iload hx hb dX11_within_63 (lv_at hl 3 rfl) ?_
                      refine lv_ishr hx hb dX11_within_65 ?_
                      refine lv_iload_n hx hb dX11_within_66 rfl (lv_at hl 1 rfl) ?_
                      refine lv_iload hx hb dX11_within_67 (lv_at hl 4 rfl) ?_
                      refine lv_ishr hx hb dX11_within_69 ?_
                      refine lv_iand hx hb dX11_within_70 ?_
                      refine lv_iconst (v := 1) hx hb dX11_within_71 (by decide) ?_
                      refine lv_iand hx hb dX11_within_72 ?_
                      refine lv_iconst (v := 1) hx hb dX11_within_73 (by decide) ?_
                      obtain ⟨ht, hf⟩ := h
                      refine lv_icmp_ne (tgt := 90) hx hb dX11_within_74 (by decide) (fun c9 => ?_) (fun c9 => ?_)
                      · have h := ht c9
                        refine lv_iconst (v := 0) hx hb dX11_within_90 (by decide) ?_
                        refine lv_ior hx hb dX11_within_91 ?_
                        refine lv_istore_n (lv' := [(2, .int (x2 ||| (0 : Int32))), (0, .ref h_t), (3, .int x3), (4, .int x4), (5, .int x5)]) hx hb dX11_within_92 rfl hl (by decide) rfl (fun ls hl => ?_)
                        refine lv_iinc (v := (x5 + 1)) (lv' := [(5, .int (x5 + 1)), (2, .int (x2 ||| (0 : Int32))), (0, .ref h_t), (3, .int x3), (4, .int x4)]) hx hb dX11_within_93 hl (k := 4) rfl rfl (by decide) rfl (fun ls hl => ?_)
                        refine lv_goto (tgt := 52) hx hb dX11_within_96 (by decide) ?_
                        exact rec52 (x2 ||| (0 : Int32)) (x5 + 1) H locs ls h hP hD hS (lv_sub hl [2, 1, 3, 4, 0] rfl)
                      · have h := hf c9
                        refine lv_iconst (v := 1) hx hb dX11_within_77 (by decide) ?_
                        refine lv_aload_n hx hb dX11_within_78 rfl (lv_at hl 0 rfl) ?_
                        refine lv_iload hx hb dX11_within_79 (lv_at hl 3 rfl) ?_
                        refine lv_iload hx hb dX11_within_81 (lv_at hl 4 rfl) ?_
                        refine mc_iV ⟨hx, hb, hml, hown, hts⟩ hK hE hA hP hD hS (c_X11_by l G Y tF H.size h_t B_t t_thrown t_n t_modulus t_rows t_strands t_letters t_listedMany t_listN t_listWhat t_table x4 x5 h) (cwV 2 hts gX11_within_X11_by rfl rfl rfl (by decide +kernel) ⟨Nat.le_trans (by decide) hRf, Nat.le_trans (by decide) hRl⟩) (fun u => (w_X11_within Y h_t B_t t_thrown t_n t_modulus t_rows t_strands t_letters t_listedMany t_listN t_listWhat t_row t_table)) [0, 2] [1] [1, 0, 2] rfl rfl rfl rfl (by decide) (fun _ => rfl) rfl 0 10 rfl rfl rfl rfl hl.1 rfl (Nat.le_of_ble_eq_true rfl) dX11_within_83 (fun r83 u H locs h hP hD hS => ?_)
                        try dsimp only at h
                        have hP : va_P G vwCl (w_X11_within Y h_t B_t t_thrown t_n t_modulus t_rows t_strands t_letters t_listedMany t_listN t_listWhat t_row t_table) H := hP
                        have hD : va_D A (w_X11_within Y h_t B_t t_thrown t_n t_modulus t_rows t_strands t_letters t_listedMany t_listN t_listWhat t_row t_table) := hD
                        refine lv_ishl hx hb dX11_within_86 ?_
                        refine lv_goto (tgt := 91) hx hb dX11_within_87 (by decide) ?_
                        refine lv_ior hx hb dX11_within_91 ?_
                        refine lv_istore_n (lv' := [(2, .int (x2 ||| ((1 : Int32) <<< (r83 &&& 31)))), (0, .ref h_t), (3, .int x3), (4, .int x4), (5, .int x5)]) hx hb dX11_within_92 rfl hl (by decide) rfl (fun ls hl => ?_)
                        refine lv_iinc (v := (x5 + 1)) (lv' := [(5, .int (x5 + 1)), (2, .int (x2 ||| ((1 : Int32) <<< (r83 &&& 31)))), (0, .ref h_t), (3, .int x3), (4, .int x4)]) hx hb dX11_within_93 hl (k := 4) rfl rfl (by decide) rfl (fun ls hl => ?_)
                        refine lv_goto (tgt := 52) hx hb dX11_within_96 (by decide) ?_
                        exact rec52 (x2 ||| ((1 : Int32) <<< (r83 &&& 31))) (x5 + 1) H locs ls h hP hD hS (lv_sub hl [2, 1, 3, 4, 0] rfl)
                exact L52 x4 I52 m52 hB52 _ x2 (0 : Int32) H locs ls hI52 (Nat.lt_succ_self _) hP hD hS (lv_sub hl [1, 2, 3, 4, 0] rfl)
          exact L40 x3 I40 m40 hB40 _ x2 (0 : Int32) H locs ls hI40 (Nat.lt_succ_self _) hP hD hS (lv_sub hl [1, 2, 3, 0] rfl)
    exact L29 (0 : Int32) t_rows t_row I29 m29 hB29 _ x1 (0 : Int32) H locs ls hI29 (Nat.lt_succ_self _) hP hD hS (lv_sub hl [2, 1, 0] rfl)
  · have h := hf c9
    refine lv_iconst (v := -1) hx hb dX11_within_23 (by decide) ?_
    exact hret (-1 : Int32) (0 : Int32) t_rows t_row H locs ls _ hP hD hS h dX11_within_24

set_option maxHeartbeats 20000000 in
set_option maxRecDepth 100000 in
theorem c_X11_within (l : Launch) (G : va_G) (Y : Nat → ClassId) (tF sz : Nat) (h_t : Nat) (B_t : Nat → Nat) (t_thrown : Int32) (t_n : Int32) (t_modulus : Int32) (t_rows : Int32) (t_strands : Int32) (t_letters : Int32) (t_listedMany : Int32) (t_listN : Int32) (t_listWhat : Int32) (t_row : Nat → Int32) (t_table : Nat → Int32) (x1 : Int32) {K : Int32 → Int32 → Int32 → (Nat → Int32) → Prop} (h : pX11_within t_thrown t_n t_rows t_row t_table x1 K) : Met l yX11_within wsX11_within ({ frames := 1, cells := 0, slots := 0, locals := 25 }) (PcM G Y tF sz (w_X11_within Y h_t B_t t_thrown t_n t_modulus t_rows t_strands t_letters t_listedMany t_listN t_listWhat t_row t_table) [.ref h_t, .int x1]) (va_Qi (fun (r : Int32) (u : Int32 × Int32 × (Nat → Int32)) => K r u.1 u.2.1 u.2.2) (fun u t => BM G Y (va_A (w_X11_within Y h_t B_t t_thrown t_n t_modulus t_rows t_strands t_letters t_listedMany t_listN t_listWhat t_row t_table) sz) (w_X11_within Y h_t B_t u.1 t_n t_modulus u.2.1 t_strands t_letters t_listedMany t_listN t_listWhat u.2.2 t_table) t) (va_A (w_X11_within Y h_t B_t t_thrown t_n t_modulus t_rows t_strands t_letters t_listedMany t_listN t_listWhat t_row t_table) sz)) 0 0 (va_A (w_X11_within Y h_t B_t t_thrown t_n t_modulus t_rows t_strands t_letters t_listedMany t_listN t_listWhat t_row t_table) sz) := by
  refine Met.ofW (cc := cX11_within) (maxL := 6) (ret := (some .int)) (by decide +kernel) rfl ?_
  intro p e s m args below meth c s₁ B hml hv
  obtain ⟨rfl, hsz, hP, hK, hD0, hE⟩ := hv
  have hts := atoms_spec (ws := wsX11_within) B.pre
  have hown : s.vm.findClass RX11 = some m.cls := findClass_of_methodNamed B.named
  have hlocks := B.notSynchronized
  subst hsz
  have hD := hD0.self (sz := s.heap.size)
  exact wk_X11_within h_t B_t t_thrown t_n t_modulus t_rows t_strands t_letters t_listedMany t_listN t_listWhat t_row t_table x1 B.exec B.bytes hml hown hts hK hE (fun q h => Or.inr h) (Nat.le_refl _) (Nat.le_refl _) (fun r t_thrown t_rows t_row H locs ls pc hP hD hS hk hd => W.iret (v := r) B.exec B.bytes B.returns (fun t ht hW => ⟨⟨r, (t_thrown, t_rows, t_row), rfl, hk, by rw [ht]; exact hP, va_K.moved hW.alike hK, hD⟩, hS.F ht⟩) hS.2.2 hd) hP hD h

