abbrev w_X11_rowsOf (Y : Nat → ClassId) (h_t : Nat) (B_t : Nat → Nat) (t_thrown : Int32) (t_n : Int32) (t_modulus : Int32) (t_rows : Int32) (t_strands : Int32) (t_letters : Int32) (t_listedMany : Int32) (t_listN : Int32) (t_listWhat : Int32) (t_best : Nat → Int32) (t_f : Nat → Int32) (t_g : Nat → Int32) (t_listed : Nat → Int32) (t_made : Nat → Int32) (t_table : Nat → Int32) : va_W := [(h_t, .inr (10, [.int t_thrown, .int t_n, .ref (B_t 2), .int t_modulus, .ref (B_t 4), .ref (B_t 5), .ref (B_t 6), .ref (B_t 7), .ref (B_t 8), .ref (B_t 9), .ref (B_t 10), .int t_rows, .ref (B_t 12), .ref (B_t 13), .ref (B_t 14), .ref (B_t 15), .ref (B_t 16), .ref (B_t 17), .ref (B_t 18), .ref (B_t 19), .int t_strands, .int t_letters, .ref (B_t 22), .ref (B_t 23), .ref (B_t 24), .ref (B_t 25), .int t_listedMany, .int t_listN, .int t_listWhat])), ((B_t 16), .inl (Y 0, 64, .inl t_best)), ((B_t 5), .inl (Y 0, 8, .inl t_f)), ((B_t 6), .inl (Y 0, 8, .inl t_g)), ((B_t 25), .inl (Y 0, 2560, .inl t_listed)), ((B_t 17), .inl (Y 0, 64, .inl t_made)), ((B_t 2), .inl (Y 0, 64, .inl t_table))]

set_option maxHeartbeats 20000000 in
set_option maxRecDepth 100000 in
theorem wk_X11_rowsOf {p : Program} {l : Launch} {e : Env} {R : Room} {s : State} {m : MethodId} {args : Array Value} {below : List Frame} {meth : Method} {c : Code} {Q : State → Prop} {G : va_G} {Y : Nat → ClassId} {tF : Nat} {A : Nat → Prop} (h_t : Nat) (B_t : Nat → Nat) (t_thrown : Int32) (t_n : Int32) (t_modulus : Int32) (t_rows : Int32) (t_strands : Int32) (t_letters : Int32) (t_listedMany : Int32) (t_listN : Int32) (t_listWhat : Int32) (t_best : Nat → Int32) (t_f : Nat → Int32) (t_g : Nat → Int32) (t_listed : Nat → Int32) (t_made : Nat → Int32) (t_table : Nat → Int32) (x1 : Int32) (x2 : Int32) {rec : Int32 → Int32 → (Nat → Int32) → (Nat → Int32) → (Nat → Int32) → (Nat → Int32) → (Nat → Int32) → (Nat → Int32) → Int32 → Int32 → (Int32 → (Nat → Int32) → (Nat → Int32) → (Nat → Int32) → (Nat → Int32) → (Nat → Int32) → (Nat → Int32) → Prop) → Prop} {fB lB : Nat} (hRcF : fB + 1 ≤ R.frames) (hRcL : 8 + (5 + 11) + lB ≤ R.locals) (hrec : ∀ (sz : Nat) (h_t : Nat) (B_t : Nat → Nat) (t_thrown : Int32) (t_n : Int32) (t_modulus : Int32) (t_rows : Int32) (t_strands : Int32) (t_letters : Int32) (t_listedMany : Int32) (t_listN : Int32) (t_listWhat : Int32) (t_best : Nat → Int32) (t_f : Nat → Int32) (t_g : Nat → Int32) (t_listed : Nat → Int32) (t_made : Nat → Int32) (t_table : Nat → Int32) (x1 : Int32) (x2 : Int32) {K : Int32 → (Nat → Int32) → (Nat → Int32) → (Nat → Int32) → (Nat → Int32) → (Nat → Int32) → (Nat → Int32) → Prop}, rec t_n t_listedMany t_best t_f t_g t_listed t_made t_table x1 x2 K → Met l yX11_rowsOf wsX11_rowsOf ({ frames := fB, cells := 0, slots := 0, locals := lB }) (PcM G Y tF sz (w_X11_rowsOf Y h_t B_t t_thrown t_n t_modulus t_rows t_strands t_letters t_listedMany t_listN t_listWhat t_best t_f t_g t_listed t_made t_table) [.ref h_t, .int x1, .int x2]) (va_Qv (fun u : Int32 × (Nat → Int32) × (Nat → Int32) × (Nat → Int32) × (Nat → Int32) × (Nat → Int32) × (Nat → Int32) => K u.1 u.2.1 u.2.2.1 u.2.2.2.1 u.2.2.2.2.1 u.2.2.2.2.2.1 u.2.2.2.2.2.2) (fun u t => BM G Y (va_A (w_X11_rowsOf Y h_t B_t t_thrown t_n t_modulus t_rows t_strands t_letters t_listedMany t_listN t_listWhat t_best t_f t_g t_listed t_made t_table) sz) (w_X11_rowsOf Y h_t B_t t_thrown t_n t_modulus t_rows t_strands t_letters u.1 t_listN t_listWhat u.2.1 u.2.2.1 u.2.2.2.1 u.2.2.2.2.1 u.2.2.2.2.2.1 u.2.2.2.2.2.2) t) (va_A (w_X11_rowsOf Y h_t B_t t_thrown t_n t_modulus t_rows t_strands t_letters t_listedMany t_listN t_listWhat t_best t_f t_g t_listed t_made t_table) sz)) 0 0 (va_A (w_X11_rowsOf Y h_t B_t t_thrown t_n t_modulus t_rows t_strands t_letters t_listedMany t_listN t_listWhat t_best t_f t_g t_listed t_made t_table) sz)) {K : Int32 → (Nat → Int32) → (Nat → Int32) → (Nat → Int32) → (Nat → Int32) → (Nat → Int32) → (Nat → Int32) → Prop} (hx : p.tables.exec = Jvm.exec) (hb : c.code = cX11_rowsOf) (hml : c.maxLocals = 5) (hown : s.vm.findClass RX11 = some m.cls) (hts : ∀ w ∈ wsX11_rowsOf, w.before args s = true) (hK : va_K G vwCl (tyL Y) s) (hE : Ev A tF s) (hA : ∀ q, s.heap.size ≤ q → A q) (hRf : 13 ≤ R.frames) (hRl : 271 ≤ R.locals) (hret : ∀ (t_listedMany : Int32) (t_best : Nat → Int32) (t_f : Nat → Int32) (t_g : Nat → Int32) (t_listed : Nat → Int32) (t_made : Nat → Int32) (t_table : Nat → Int32) (H : Heap) (locs : List Loc) (ls : Array Slot) (pc : Nat), va_P G vwCl (w_X11_rowsOf Y h_t B_t t_thrown t_n t_modulus t_rows t_strands t_letters t_listedMany t_listN t_listWhat t_best t_f t_g t_listed t_made t_table) H → va_D A (w_X11_rowsOf Y h_t B_t t_thrown t_n t_modulus t_rows t_strands t_letters t_listedMany t_listN t_listWhat t_best t_f t_g t_listed t_made t_table) → va_S A s.heap H locs → K t_listedMany t_best t_f t_g t_listed t_made t_table → decode cX11_rowsOf pc = .ok (.return_, 1) → W p l e R s m args below meth c H locs 0 0 Q (F0 m pc ls [])) (hP : va_P G vwCl (w_X11_rowsOf Y h_t B_t t_thrown t_n t_modulus t_rows t_strands t_letters t_listedMany t_listN t_listWhat t_best t_f t_g t_listed t_made t_table) s.heap) (hD : va_D A (w_X11_rowsOf Y h_t B_t t_thrown t_n t_modulus t_rows t_strands t_letters t_listedMany t_listN t_listWhat t_best t_f t_g t_listed t_made t_table)) (h : pX11_rowsOf_b rec t_n t_listedMany t_best t_f t_g t_listed t_made t_table x1 x2 K) : W p l e R s m args below meth c s.heap [] 0 0 Q (entryFrame m ([.ref h_t, .int x1, .int x2] : List Value).toArray 5) := by
  have inX11 : ∀ w ∈ u_ws RX11 TX11 29, w ∈ wsX11_rowsOf := by decide +kernel
  have hf13 := hts (.fieldLink RX11 13 "RackBenchModel" "table" "[I") (by decide +kernel)
  have hf230 := hts (.fieldLink RX11 230 "RackBenchModel" "listedMany" "I") (by decide +kernel)
  have hf26 := hts (.fieldLink RX11 26 "RackBenchModel" "g" "[I") (by decide +kernel)
  have hf80 := hts (.fieldLink RX11 80 "RackBenchModel" "listed" "[I") (by decide +kernel)
  have hf9 := hts (.fieldLink RX11 9 "RackBenchModel" "n" "I") (by decide +kernel)
  have hl := lv_entry ([.ref h_t, .int x1, .int x2]) (n := 5) (Nat.le_of_ble_eq_true rfl)
  rw [lg_entry_eq]
  generalize (lg_sl ([.ref h_t, .int x1, .int x2]) ++ List.replicate (5 - (lg_sl ([.ref h_t, .int x1, .int x2])).length) Slot.unset).toArray = ls at hl ⊢
  have hl : lv_has ls 5 [(0, .ref h_t), (1, .int x1), (2, .int x2)] := hl
  generalize hH0 : s.heap = H at hP ⊢
  have hS : va_S A s.heap H [] := by rw [← hH0]; exact va_S.rf
  clear hH0
  generalize ([] : List Loc) = locs at hS ⊢
  refine lv_iload_n hx hb dX11_rowsOf_0 rfl (lv_at hl 1 rfl) ?_
  refine lv_aload_n hx hb dX11_rowsOf_1 rfl (lv_at hl 0 rfl) ?_
  refine va_get (D := G) (ci := 10) (v := .int t_n) (C := RX11) (T := TX11) (N := 29) hx hb hts inX11 hown hK hP 0 rfl rfl 1 (by decide) hf9 (fun _ h9 => h9) rfl dX11_rowsOf_2 ?_
  obtain ⟨ht, hf⟩ := h
  refine lv_icmp_ne (tgt := 71) hx hb dX11_rowsOf_5 (by decide) (fun c9 => ?_) (fun c9 => ?_)
  · have h := ht c9
    refine lv_iconst (v := 0) hx hb dX11_rowsOf_71 (by decide) ?_
    refine lv_istore_n (lv' := [(3, .int (0 : Int32)), (0, .ref h_t), (1, .int x1), (2, .int x2)]) hx hb dX11_rowsOf_72 rfl hl (by decide) rfl (fun ls hl => ?_)
    obtain ⟨I73, m73, hI73, hB73⟩ := h
    have L73 : ∀ (x1 : Int32) (x2 : Int32) (I73 : Int32 → Int32 → (Nat → Int32) → (Nat → Int32) → (Nat → Int32) → (Nat → Int32) → (Nat → Int32) → (Nat → Int32) → Prop) (m73 : Int32 → Int32 → (Nat → Int32) → (Nat → Int32) → (Nat → Int32) → (Nat → Int32) → (Nat → Int32) → (Nat → Int32) → Nat), (∀ (x3 : Int32) (t_listedMany : Int32) (t_best : Nat → Int32) (t_f : Nat → Int32) (t_g : Nat → Int32) (t_listed : Nat → Int32) (t_made : Nat → Int32) (t_table : Nat → Int32), I73 x3 t_listedMany t_best t_f t_g t_listed t_made t_table → pX11_rowsOf_73 t_n rec K x1 x2 x3 t_listedMany t_best t_f t_g t_listed t_made t_table (fun x3' t_listedMany' t_best' t_f' t_g' t_listed' t_made' t_table' => I73 x3' t_listedMany' t_best' t_f' t_g' t_listed' t_made' t_table' ∧ m73 x3' t_listedMany' t_best' t_f' t_g' t_listed' t_made' t_table' < m73 x3 t_listedMany t_best t_f t_g t_listed t_made t_table)) → ∀ (n : Nat) (x3 : Int32) (t_listedMany : Int32) (t_best : Nat → Int32) (t_f : Nat → Int32) (t_g : Nat → Int32) (t_listed : Nat → Int32) (t_made : Nat → Int32) (t_table : Nat → Int32) (H : Heap) (locs : List Loc) (ls : Array Slot), I73 x3 t_listedMany t_best t_f t_g t_listed t_made t_table → m73 x3 t_listedMany t_best t_f t_g t_listed t_made t_table < n → va_P G vwCl (w_X11_rowsOf Y h_t B_t t_thrown t_n t_modulus t_rows t_strands t_letters t_listedMany t_listN t_listWhat t_best t_f t_g t_listed t_made t_table) H → va_D A (w_X11_rowsOf Y h_t B_t t_thrown t_n t_modulus t_rows t_strands t_letters t_listedMany t_listN t_listWhat t_best t_f t_g t_listed t_made t_table) → va_S A s.heap H locs → lv_has ls 5 [(0, .ref h_t), (1, .int x1), (2, .int x2), (3, .int x3)] → W p l e R s m args below meth c H locs 0 0 Q (F0 m 73 ls []) := by
      intro x1 x2 I73 m73 hB73 n
      induction n with
      | zero => intro x3 t_listedMany t_best t_f t_g t_listed t_made t_table H locs ls _ hm; exact absurd hm (Nat.not_lt_zero _)
      | succ n ih =>
        intro x3 t_listedMany t_best t_f t_g t_listed t_made t_table H locs ls hI hm hP hD hS hl
        obtain ⟨R73, h, rec73⟩ : ∃ R73 : Int32 → Int32 → (Nat → Int32) → (Nat → Int32) → (Nat → Int32) → (Nat → Int32) → (Nat → Int32) → (Nat → Int32) → Prop, pX11_rowsOf_73 t_n rec K x1 x2 x3 t_listedMany t_best t_f t_g t_listed t_made t_table R73 ∧ ∀ (x3 : Int32) (t_listedMany : Int32) (t_best : Nat → Int32) (t_f : Nat → Int32) (t_g : Nat → Int32) (t_listed : Nat → Int32) (t_made : Nat → Int32) (t_table : Nat → Int32) (H : Heap) (locs : List Loc) (ls : Array Slot), R73 x3 t_listedMany t_best t_f t_g t_listed t_made t_table → va_P G vwCl (w_X11_rowsOf Y h_t B_t t_thrown t_n t_modulus t_rows t_strands t_letters t_listedMany t_listN t_listWhat t_best t_f t_g t_listed t_made t_table) H → va_D A (w_X11_rowsOf Y h_t B_t t_thrown t_n t_modulus t_rows t_strands t_letters t_listedMany t_listN t_listWhat t_best t_f t_g t_listed t_made t_table) → va_S A s.heap H locs → lv_has ls 5 [(0, .ref h_t), (1, .int x1), (2, .int x2), (3, .int x3)] → W p l e R s m args below meth c H locs 0 0 Q (F0 m 73 ls []) := ⟨_, hB73 x3 t_listedMany t_best t_f t_g t_listed t_made t_table hI, fun x3 t_listedMany t_best t_f t_g t_listed t_made t_table H locs ls hh hP hD hS hl => ih x3 t_listedMany t_best t_f t_g t_listed t_made t_table H locs ls hh.1 (Nat.lt_of_lt_of_le hh.2 (Nat.le_of_lt_succ hm)) hP hD hS hl⟩
        have J110 : ∀ (x3 : Int32) (t_listedMany : Int32) (t_best : Nat → Int32) (t_f : Nat → Int32) (t_g : Nat → Int32) (t_listed : Nat → Int32) (t_made : Nat → Int32) (t_table : Nat → Int32) (H : Heap) (locs : List Loc) (ls : Array Slot), pX11_rowsOf_110 t_n rec R73 K x1 x2 x3 t_listedMany t_best t_f t_g t_listed t_made t_table → va_P G vwCl (w_X11_rowsOf Y h_t B_t t_thrown t_n t_modulus t_rows t_strands t_letters t_listedMany t_listN t_listWhat t_best t_f t_g t_listed t_made t_table) H → va_D A (w_X11_rowsOf Y h_t B_t t_thrown t_n t_modulus t_rows t_strands t_letters t_listedMany t_listN t_listWhat t_best t_f t_g t_listed t_made t_table) → va_S A s.heap H locs → lv_has ls 5 [(0, .ref h_t), (1, .int x1), (2, .int x2), (3, .int x3)] → W p l e R s m args below meth c H locs 0 0 Q (F0 m 110 ls []) := by
          intro x3 t_listedMany t_best t_f t_g t_listed t_made t_table H locs ls h hP hD hS hl
          refine lv_iconst (v := 0) hx hb dX11_rowsOf_110 (by decide) ?_
          refine lv_istore (lv' := [(4, .int (0 : Int32)), (0, .ref h_t), (1, .int x1), (2, .int x2), (3, .int x3)]) hx hb dX11_rowsOf_111 hl (by decide) rfl (fun ls hl => ?_)
          obtain ⟨I113, m113, hI113, hB113⟩ := h
          have L113 : ∀ (x3 : Int32) (t_listedMany : Int32) (t_best : Nat → Int32) (t_f : Nat → Int32) (t_g : Nat → Int32) (t_listed : Nat → Int32) (t_made : Nat → Int32) (I113 : Int32 → (Nat → Int32) → Prop) (m113 : Int32 → (Nat → Int32) → Nat), (∀ (x4 : Int32) (t_table : Nat → Int32), I113 x4 t_table → pX11_rowsOf_113 t_n rec R73 K x1 x2 x3 t_listedMany t_best t_f t_g t_listed t_made x4 t_table (fun x4' t_table' => I113 x4' t_table' ∧ m113 x4' t_table' < m113 x4 t_table)) → ∀ (n : Nat) (x4 : Int32) (t_table : Nat → Int32) (H : Heap) (locs : List Loc) (ls : Array Slot), I113 x4 t_table → m113 x4 t_table < n → va_P G vwCl (w_X11_rowsOf Y h_t B_t t_thrown t_n t_modulus t_rows t_strands t_letters t_listedMany t_listN t_listWhat t_best t_f t_g t_listed t_made t_table) H → va_D A (w_X11_rowsOf Y h_t B_t t_thrown t_n t_modulus t_rows t_strands t_letters t_listedMany t_listN t_listWhat t_best t_f t_g t_listed t_made t_table) → va_S A s.heap H locs → lv_has ls 5 [(0, .ref h_t), (1, .int x1), (2, .int x2), (3, .int x3), (4, .int x4)] → W p l e R s m args below meth c H locs 0 0 Q (F0 m 113 ls []) := by
            intro x3 t_listedMany t_best t_f t_g t_listed t_made I113 m113 hB113 n
            induction n with
            | zero => intro x4 t_table H locs ls _ hm; exact absurd hm (Nat.not_lt_zero _)
            | succ n ih =>
              intro x4 t_table H locs ls hI hm hP hD hS hl
              obtain ⟨R113, h, rec113⟩ : ∃ R113 : Int32 → (Nat → Int32) → Prop, pX11_rowsOf_113 t_n rec R73 K x1 x2 x3 t_listedMany t_best t_f t_g t_listed t_made x4 t_table R113 ∧ ∀ (x4 : Int32) (t_table : Nat → Int32) (H : Heap) (locs : List Loc) (ls : Array Slot), R113 x4 t_table → va_P G vwCl (w_X11_rowsOf Y h_t B_t t_thrown t_n t_modulus t_rows t_strands t_letters t_listedMany t_listN t_listWhat t_best t_f t_g t_listed t_made t_table) H → va_D A (w_X11_rowsOf Y h_t B_t t_thrown t_n t_modulus t_rows t_strands t_letters t_listedMany t_listN t_listWhat t_best t_f t_g t_listed t_made t_table) → va_S A s.heap H locs → lv_has ls 5 [(0, .ref h_t), (1, .int x1), (2, .int x2), (3, .int x3), (4, .int x4)] → W p l e R s m args below meth c H locs 0 0 Q (F0 m 113 ls []) := ⟨_, hB113 x4 t_table hI, fun x4 t_table H locs ls hh hP hD hS hl => ih x4 t_table H locs ls hh.1 (Nat.lt_of_lt_of_le hh.2 (Nat.le_of_lt_succ hm)) hP hD hS hl⟩
              refine lv_iload hx hb dX11_rowsOf_113 (lv_at hl 4 rfl) ?_
              refine lv_aload_n hx hb dX11_rowsOf_115 rfl (lv_at hl 0 rfl) ?_
              refine va_get (D := G) (ci := 10) (v := .int t_n) (C := RX11) (T := TX11) (N := 29) hx hb hts inX11 hown hK hP 0 rfl rfl 1 (by decide) hf9 (fun _ h9 => h9) rfl dX11_rowsOf_116 ?_
              obtain ⟨ht, hf⟩ := h
              refine lv_icmp_ge (tgt := 147) hx hb dX11_rowsOf_119 (by decide) (fun c9 => ?_) (fun c9 => ?_)
              · have h := ht c9
                refine lv_aload_n hx hb dX11_rowsOf_147 rfl (lv_at hl 0 rfl) ?_
                refine lv_iload_n hx hb dX11_rowsOf_148 rfl (lv_at hl 1 rfl) ?_
                refine lv_iconst (v := 1) hx hb dX11_rowsOf_149 (by decide) ?_
                refine lv_iadd hx hb dX11_rowsOf_150 ?_
                refine lv_iload_n hx hb dX11_rowsOf_151 rfl (lv_at hl 2 rfl) ?_
                refine mc_vV ⟨hx, hb, hml, hown, hts⟩ hK hE hA hP hD hS (hrec H.size h_t B_t t_thrown t_n t_modulus t_rows t_strands t_letters t_listedMany t_listN t_listWhat t_best t_f t_g t_listed t_made t_table (x1 + (1 : Int32)) x2 h) (cwV 2 hts gX11_rowsOf_X11_rowsOf rfl rfl rfl (by decide +kernel) ⟨hRcF, hRcL⟩) (fun u => (w_X11_rowsOf Y h_t B_t t_thrown t_n t_modulus t_rows t_strands t_letters u.1 t_listN t_listWhat u.2.1 u.2.2.1 u.2.2.2.1 u.2.2.2.2.1 u.2.2.2.2.2.1 u.2.2.2.2.2.2)) [0, 1, 2, 3, 4, 5, 6] [] [0, 1, 2, 3, 4, 5, 6] rfl rfl rfl rfl (by decide) (fun _ => rfl) rfl 0 10 rfl rfl rfl rfl hl.1 rfl (Nat.le_of_ble_eq_true rfl) dX11_rowsOf_152 (fun u H locs h hP hD hS => ?_)
                obtain ⟨t_listedMany_152, t_best_152, t_f_152, t_g_152, t_listed_152, t_made_152, t_table_152⟩ := u
                try dsimp only at h
                have hP : va_P G vwCl (w_X11_rowsOf Y h_t B_t t_thrown t_n t_modulus t_rows t_strands t_letters t_listedMany_152 t_listN t_listWhat t_best_152 t_f_152 t_g_152 t_listed_152 t_made_152 t_table_152) H := hP
                have hD : va_D A (w_X11_rowsOf Y h_t B_t t_thrown t_n t_modulus t_rows t_strands t_letters t_listedMany_152 t_listN t_listWhat t_best_152 t_f_152 t_g_152 t_listed_152 t_made_152 t_table_152) := hD
                refine lv_iinc (v := (x3 + 1)) (lv' := [(3, .int (x3 + 1)), (0, .ref h_t), (1, .int x1), (2, .int x2), (4, .int x4)]) hx hb dX11_rowsOf_155 hl (k := 3) rfl rfl (by decide) rfl (fun ls hl => ?_)
                refine lv_goto (tgt := 73) hx hb dX11_rowsOf_158 (by decide) ?_
                exact rec73 (x3 + 1) t_listedMany_152 t_best_152 t_f_152 t_g_152 t_listed_152 t_made_152 t_table_152 H locs ls h hP hD hS (lv_sub hl [1, 2, 3, 0] rfl)
              · have h := hf c9
                refine lv_aload_n hx hb dX11_rowsOf_122 rfl (lv_at hl 0 rfl) ?_
                refine va_get (D := G) (ci := 10) (v := .ref (B_t 2)) (C := RX11) (T := TX11) (N := 29) hx hb hts inX11 hown hK hP 0 rfl rfl 2 (by decide) hf13 (fun _ h9 => h9) rfl dX11_rowsOf_123 ?_
                refine lv_bipush (v := 8) hx hb dX11_rowsOf_126 (by decide) ?_
                refine lv_iload_n hx hb dX11_rowsOf_128 rfl (lv_at hl 1 rfl) ?_
                refine lv_imul hx hb dX11_rowsOf_129 ?_
                refine lv_iload hx hb dX11_rowsOf_130 (lv_at hl 4 rfl) ?_
                refine lv_iadd hx hb dX11_rowsOf_132 ?_
                refine lv_aload_n hx hb dX11_rowsOf_133 rfl (lv_at hl 0 rfl) ?_
                refine va_get (D := G) (ci := 10) (v := .ref (B_t 6)) (C := RX11) (T := TX11) (N := 29) hx hb hts inX11 hown hK hP 0 rfl rfl 6 (by decide) hf26 (fun _ h9 => h9) rfl dX11_rowsOf_134 ?_
                refine lv_iload hx hb dX11_rowsOf_137 (lv_at hl 4 rfl) ?_
                obtain ⟨hin, h⟩ := h
                refine va_iald hx hb hK hP 3 0 rfl rfl hin dX11_rowsOf_139 ?_
                obtain ⟨hin, h⟩ := h
                refine va_iast hx hb hK hP hD hS 6 0 rfl rfl hin dX11_rowsOf_140 (fun H locs hP hD hS => ?_)
                have hP : va_P G vwCl (w_X11_rowsOf Y h_t B_t t_thrown t_n t_modulus t_rows t_strands t_letters t_listedMany t_listN t_listWhat t_best t_f t_g t_listed t_made (upd t_table (Int32.toNatClampNeg (((8 : Int32) * x1) + x4)) (t_g (Int32.toNatClampNeg x4)))) H := hP
                have hD : va_D A (w_X11_rowsOf Y h_t B_t t_thrown t_n t_modulus t_rows t_strands t_letters t_listedMany t_listN t_listWhat t_best t_f t_g t_listed t_made (upd t_table (Int32.toNatClampNeg (((8 : Int32) * x1) + x4)) (t_g (Int32.toNatClampNeg x4)))) := hD
                refine lv_iinc (v := (x4 + 1)) (lv' := [(4, .int (x4 + 1)), (0, .ref h_t), (1, .int x1), (2, .int x2), (3, .int x3)]) hx hb dX11_rowsOf_141 hl (k := 4) rfl rfl (by decide) rfl (fun ls hl => ?_)
                refine lv_goto (tgt := 113) hx hb dX11_rowsOf_144 (by decide) ?_
                exact rec113 (x4 + 1) (upd t_table (Int32.toNatClampNeg (((8 : Int32) * x1) + x4)) (t_g (Int32.toNatClampNeg x4))) H locs ls h hP hD hS (lv_sub hl [1, 2, 3, 4, 0] rfl)
          exact L113 x3 t_listedMany t_best t_f t_g t_listed t_made I113 m113 hB113 _ (0 : Int32) t_table H locs ls hI113 (Nat.lt_succ_self _) hP hD hS (lv_sub hl [1, 2, 3, 4, 0] rfl)
        refine lv_iload_n hx hb dX11_rowsOf_73 rfl (lv_at hl 3 rfl) ?_
        refine lv_aload_n hx hb dX11_rowsOf_74 rfl (lv_at hl 0 rfl) ?_
        refine va_get (D := G) (ci := 10) (v := .int t_n) (C := RX11) (T := TX11) (N := 29) hx hb hts inX11 hown hK hP 0 rfl rfl 1 (by decide) hf9 (fun _ h9 => h9) rfl dX11_rowsOf_75 ?_
        refine mc_iS ⟨hx, hb, hml, hown, hts⟩ hK hE hA hP hD hS (c_X11_factorial 10 l G Y tF H.size t_n h) (va_cwS 1 hts gX11_rowsOf_X11_factorial rfl rfl rfl (by decide +kernel) ⟨Nat.le_trans (by decide) hRf, Nat.le_trans (by decide) hRl⟩) (fun u => (w_X11_rowsOf Y h_t B_t t_thrown t_n t_modulus t_rows t_strands t_letters t_listedMany t_listN t_listWhat t_best t_f t_g t_listed t_made t_table)) [] [0, 1, 2, 3, 4, 5, 6] [0, 1, 2, 3, 4, 5, 6] rfl rfl rfl rfl (by decide) (fun _ => rfl) rfl rfl hl.1 rfl (Nat.le_of_ble_eq_true rfl) dX11_rowsOf_78 (fun r78 u H locs h hP hD hS => ?_)
        try dsimp only at h
        have hP : va_P G vwCl (w_X11_rowsOf Y h_t B_t t_thrown t_n t_modulus t_rows t_strands t_letters t_listedMany t_listN t_listWhat t_best t_f t_g t_listed t_made t_table) H := hP
        have hD : va_D A (w_X11_rowsOf Y h_t B_t t_thrown t_n t_modulus t_rows t_strands t_letters t_listedMany t_listN t_listWhat t_best t_f t_g t_listed t_made t_table) := hD
        obtain ⟨ht, hf⟩ := h
        refine lv_icmp_ge (tgt := 161) hx hb dX11_rowsOf_81 (by decide) (fun c9 => ?_) (fun c9 => ?_)
        · have h := ht c9
          exact hret t_listedMany t_best t_f t_g t_listed t_made t_table H locs ls _ hP hD hS h dX11_rowsOf_161
        · have h := hf c9
          refine lv_aload_n hx hb dX11_rowsOf_84 rfl (lv_at hl 0 rfl) ?_
          refine va_get (D := G) (ci := 10) (v := .int t_n) (C := RX11) (T := TX11) (N := 29) hx hb hts inX11 hown hK hP 0 rfl rfl 1 (by decide) hf9 (fun _ h9 => h9) rfl dX11_rowsOf_85 ?_
          refine lv_iload_n hx hb dX11_rowsOf_88 rfl (lv_at hl 3 rfl) ?_
          refine lv_aload_n hx hb dX11_rowsOf_89 rfl (lv_at hl 0 rfl) ?_
          refine va_get (D := G) (ci := 10) (v := .ref (B_t 6)) (C := RX11) (T := TX11) (N := 29) hx hb hts inX11 hown hK hP 0 rfl rfl 6 (by decide) hf26 (fun _ h9 => h9) rfl dX11_rowsOf_90 ?_
          refine mc_vS ⟨hx, hb, hml, hown, hts⟩ hK hE hA hP hD hS (c_X11_permutation l G Y tF H.size (B_t 6) 8 t_g t_n x3 h) (va_cwS 3 hts gX11_rowsOf_X11_permutation rfl rfl rfl (by decide +kernel) ⟨Nat.le_trans (by decide) hRf, Nat.le_trans (by decide) hRl⟩) (fun u => (w_X11_rowsOf Y h_t B_t t_thrown t_n t_modulus t_rows t_strands t_letters t_listedMany t_listN t_listWhat t_best t_f u t_listed t_made t_table)) [3] [0, 1, 2, 4, 5, 6] [0, 1, 2, 6, 3, 4, 5] rfl rfl rfl rfl (by decide) (fun _ => rfl) rfl rfl hl.1 rfl (Nat.le_of_ble_eq_true rfl) dX11_rowsOf_93 (fun u H locs h hP hD hS => ?_)
          obtain ⟨t_g_93, rfl⟩ : ∃ z, z = u := ⟨_, rfl⟩
          try dsimp only at h
          have hP : va_P G vwCl (w_X11_rowsOf Y h_t B_t t_thrown t_n t_modulus t_rows t_strands t_letters t_listedMany t_listN t_listWhat t_best t_f t_g_93 t_listed t_made t_table) H := hP
          have hD : va_D A (w_X11_rowsOf Y h_t B_t t_thrown t_n t_modulus t_rows t_strands t_letters t_listedMany t_listN t_listWhat t_best t_f t_g_93 t_listed t_made t_table) := hD
          refine lv_iload_n hx hb dX11_rowsOf_96 rfl (lv_at hl 2 rfl) ?_
          obtain ⟨ht, hf⟩ := h
          refine lv_if_eq (tgt := 110) hx hb dX11_rowsOf_97 (by decide) (fun c9 => ?_) (fun c9 => ?_)
          · have h := ht c9
            exact J110 x3 t_listedMany t_best t_f t_g_93 t_listed t_made t_table H locs ls h hP hD hS (lv_sub hl [0, 1, 2, 3] rfl)
          · have h := hf c9
            refine lv_aload_n hx hb dX11_rowsOf_100 rfl (lv_at hl 0 rfl) ?_
            refine va_get (D := G) (ci := 10) (v := .ref (B_t 6)) (C := RX11) (T := TX11) (N := 29) hx hb hts inX11 hown hK hP 0 rfl rfl 6 (by decide) hf26 (fun _ h9 => h9) rfl dX11_rowsOf_101 ?_
            refine lv_iload_n hx hb dX11_rowsOf_104 rfl (lv_at hl 1 rfl) ?_
            obtain ⟨hin, h⟩ := h
            refine va_iald hx hb hK hP 3 0 rfl rfl hin dX11_rowsOf_105 ?_
            refine lv_iload_n hx hb dX11_rowsOf_106 rfl (lv_at hl 1 rfl) ?_
            obtain ⟨ht, hf⟩ := h
            refine lv_icmp_ne (tgt := 155) hx hb dX11_rowsOf_107 (by decide) (fun c9 => ?_) (fun c9 => ?_)
            · have h := ht c9
              refine lv_iinc (v := (x3 + 1)) (lv' := [(3, .int (x3 + 1)), (0, .ref h_t), (1, .int x1), (2, .int x2)]) hx hb dX11_rowsOf_155 hl (k := 3) rfl rfl (by decide) rfl (fun ls hl => ?_)
              refine lv_goto (tgt := 73) hx hb dX11_rowsOf_158 (by decide) ?_
              exact rec73 (x3 + 1) t_listedMany t_best t_f t_g_93 t_listed t_made t_table H locs ls h hP hD hS (lv_sub hl [1, 2, 3, 0] rfl)
            · have h := hf c9
              exact J110 x3 t_listedMany t_best t_f t_g_93 t_listed t_made t_table H locs ls h hP hD hS (lv_sub hl [0, 1, 2, 3] rfl)
    exact L73 x1 x2 I73 m73 hB73 _ (0 : Int32) t_listedMany t_best t_f t_g t_listed t_made t_table H locs ls hI73 (Nat.lt_succ_self _) hP hD hS (lv_sub hl [1, 2, 3, 0] rfl)
  · have h := hf c9
    refine lv_aload_n hx hb dX11_rowsOf_8 rfl (lv_at hl 0 rfl) ?_
    refine mc_iV ⟨hx, hb, hml, hown, hts⟩ hK hE hA hP hD hS (c_X11_unruly l G Y tF H.size h_t B_t t_thrown t_n t_modulus t_rows t_strands t_letters t_listedMany t_listN t_listWhat t_table h) (cwV 0 hts gX11_rowsOf_X11_unruly rfl rfl rfl (by decide +kernel) ⟨Nat.le_trans (by decide) hRf, Nat.le_trans (by decide) hRl⟩) (fun u => (w_X11_rowsOf Y h_t B_t t_thrown t_n t_modulus t_rows t_strands t_letters t_listedMany t_listN t_listWhat t_best t_f t_g t_listed t_made t_table)) [0, 6] [1, 2, 3, 4, 5] [5, 0, 1, 2, 3, 4, 6] rfl rfl rfl rfl (by decide) (fun _ => rfl) rfl 0 10 rfl rfl rfl rfl hl.1 rfl (Nat.le_of_ble_eq_true rfl) dX11_rowsOf_9 (fun r9 u H locs h hP hD hS => ?_)
    try dsimp only at h
    have hP : va_P G vwCl (w_X11_rowsOf Y h_t B_t t_thrown t_n t_modulus t_rows t_strands t_letters t_listedMany t_listN t_listWhat t_best t_f t_g t_listed t_made t_table) H := hP
    have hD : va_D A (w_X11_rowsOf Y h_t B_t t_thrown t_n t_modulus t_rows t_strands t_letters t_listedMany t_listN t_listWhat t_best t_f t_g t_listed t_made t_table) := hD
    obtain ⟨ht, hf⟩ := h
    refine lv_if_ge (tgt := 70) hx hb dX11_rowsOf_12 (by decide) (fun c9 => ?_) (fun c9 => ?_)
    · have h := ht c9
      exact hret t_listedMany t_best t_f t_g t_listed t_made t_table H locs ls _ hP hD hS h dX11_rowsOf_70
    · have h := hf c9
      refine lv_aload_n hx hb dX11_rowsOf_15 rfl (lv_at hl 0 rfl) ?_
      refine mc_vV ⟨hx, hb, hml, hown, hts⟩ hK hE hA hP hD hS (c_X11_leastOf l G Y tF H.size h_t B_t t_thrown t_n t_modulus t_rows t_strands t_letters t_listedMany t_listN t_listWhat t_best t_f t_made t_table h) (cwV 0 hts gX11_rowsOf_X11_leastOf rfl rfl rfl (by decide +kernel) ⟨Nat.le_trans (by decide) hRf, Nat.le_trans (by decide) hRl⟩) (fun u => (w_X11_rowsOf Y h_t B_t t_thrown t_n t_modulus t_rows t_strands t_letters t_listedMany t_listN t_listWhat u.1 u.2.1 t_g t_listed u.2.2 t_table)) [0, 1, 2, 5, 6] [3, 4] [2, 3, 4, 0, 1, 5, 6] rfl rfl rfl rfl (by decide) (fun _ => rfl) rfl 0 10 rfl rfl rfl rfl hl.1 rfl (Nat.le_of_ble_eq_true rfl) dX11_rowsOf_16 (fun u H locs h hP hD hS => ?_)
      obtain ⟨t_best_16, t_f_16, t_made_16⟩ := u
      try dsimp only at h
      have hP : va_P G vwCl (w_X11_rowsOf Y h_t B_t t_thrown t_n t_modulus t_rows t_strands t_letters t_listedMany t_listN t_listWhat t_best_16 t_f_16 t_g t_listed t_made_16 t_table) H := hP
      have hD : va_D A (w_X11_rowsOf Y h_t B_t t_thrown t_n t_modulus t_rows t_strands t_letters t_listedMany t_listN t_listWhat t_best_16 t_f_16 t_g t_listed t_made_16 t_table) := hD
      refine lv_aload_n hx hb dX11_rowsOf_19 rfl (lv_at hl 0 rfl) ?_
      refine mc_iV ⟨hx, hb, hml, hown, hts⟩ hK hE hA hP hD hS (c_X11_isBest l G Y tF H.size h_t B_t t_thrown t_n t_modulus t_rows t_strands t_letters t_listedMany t_listN t_listWhat t_best_16 t_table h) (cwV 0 hts gX11_rowsOf_X11_isBest rfl rfl rfl (by decide +kernel) ⟨Nat.le_trans (by decide) hRf, Nat.le_trans (by decide) hRl⟩) (fun u => (w_X11_rowsOf Y h_t B_t t_thrown t_n t_modulus t_rows t_strands t_letters t_listedMany t_listN t_listWhat t_best_16 t_f_16 t_g t_listed t_made_16 t_table)) [0, 1, 6] [2, 3, 4, 5] [4, 5, 0, 1, 2, 3, 6] rfl rfl rfl rfl (by decide) (fun _ => rfl) rfl 0 10 rfl rfl rfl rfl hl.1 rfl (Nat.le_of_ble_eq_true rfl) dX11_rowsOf_20 (fun r20 u H locs h hP hD hS => ?_)
      try dsimp only at h
      have hP : va_P G vwCl (w_X11_rowsOf Y h_t B_t t_thrown t_n t_modulus t_rows t_strands t_letters t_listedMany t_listN t_listWhat t_best_16 t_f_16 t_g t_listed t_made_16 t_table) H := hP
      have hD : va_D A (w_X11_rowsOf Y h_t B_t t_thrown t_n t_modulus t_rows t_strands t_letters t_listedMany t_listN t_listWhat t_best_16 t_f_16 t_g t_listed t_made_16 t_table) := hD
      obtain ⟨ht, hf⟩ := h
      refine lv_if_eq (tgt := 70) hx hb dX11_rowsOf_23 (by decide) (fun c9 => ?_) (fun c9 => ?_)
      · have h := ht c9
        exact hret t_listedMany t_best_16 t_f_16 t_g t_listed t_made_16 t_table H locs ls _ hP hD hS h dX11_rowsOf_70
      · have h := hf c9
        refine lv_iconst (v := 0) hx hb dX11_rowsOf_26 (by decide) ?_
        refine lv_istore_n (lv' := [(3, .int (0 : Int32)), (0, .ref h_t), (1, .int x1), (2, .int x2)]) hx hb dX11_rowsOf_27 rfl hl (by decide) rfl (fun ls hl => ?_)
        obtain ⟨I28, m28, hI28, hB28⟩ := h
        have L28 : ∀ (t_listedMany : Int32) (t_best : Nat → Int32) (t_f : Nat → Int32) (t_g : Nat → Int32) (t_made : Nat → Int32) (t_table : Nat → Int32) (I28 : Int32 → (Nat → Int32) → Prop) (m28 : Int32 → (Nat → Int32) → Nat), (∀ (x3 : Int32) (t_listed : Nat → Int32), I28 x3 t_listed → pX11_rowsOf_28 t_n rec K t_listedMany t_best t_f t_g t_made t_table x3 t_listed (fun x3' t_listed' => I28 x3' t_listed' ∧ m28 x3' t_listed' < m28 x3 t_listed)) → ∀ (n : Nat) (x3 : Int32) (t_listed : Nat → Int32) (H : Heap) (locs : List Loc) (ls : Array Slot), I28 x3 t_listed → m28 x3 t_listed < n → va_P G vwCl (w_X11_rowsOf Y h_t B_t t_thrown t_n t_modulus t_rows t_strands t_letters t_listedMany t_listN t_listWhat t_best t_f t_g t_listed t_made t_table) H → va_D A (w_X11_rowsOf Y h_t B_t t_thrown t_n t_modulus t_rows t_strands t_letters t_listedMany t_listN t_listWhat t_best t_f t_g t_listed t_made t_table) → va_S A s.heap H locs → lv_has ls 5 [(0, .ref h_t), (3, .int x3)] → W p l e R s m args below meth c H locs 0 0 Q (F0 m 28 ls []) := by
          intro t_listedMany t_best t_f t_g t_made t_table I28 m28 hB28 n
          induction n with
          | zero => intro x3 t_listed H locs ls _ hm; exact absurd hm (Nat.not_lt_zero _)
          | succ n ih =>
            intro x3 t_listed H locs ls hI hm hP hD hS hl
            obtain ⟨R28, h, rec28⟩ : ∃ R28 : Int32 → (Nat → Int32) → Prop, pX11_rowsOf_28 t_n rec K t_listedMany t_best t_f t_g t_made t_table x3 t_listed R28 ∧ ∀ (x3 : Int32) (t_listed : Nat → Int32) (H : Heap) (locs : List Loc) (ls : Array Slot), R28 x3 t_listed → va_P G vwCl (w_X11_rowsOf Y h_t B_t t_thrown t_n t_modulus t_rows t_strands t_letters t_listedMany t_listN t_listWhat t_best t_f t_g t_listed t_made t_table) H → va_D A (w_X11_rowsOf Y h_t B_t t_thrown t_n t_modulus t_rows t_strands t_letters t_listedMany t_listN t_listWhat t_best t_f t_g t_listed t_made t_table) → va_S A s.heap H locs → lv_has ls 5 [(0, .ref h_t), (3, .int x3)] → W p l e R s m args below meth c H locs 0 0 Q (F0 m 28 ls []) := ⟨_, hB28 x3 t_listed hI, fun x3 t_listed H locs ls hh hP hD hS hl => ih x3 t_listed H locs ls hh.1 (Nat.lt_of_lt_of_le hh.2 (Nat.le_of_lt_succ hm)) hP hD hS hl⟩
            refine lv_iload_n hx hb dX11_rowsOf_28 rfl (lv_at hl 1 rfl) ?_
            refine lv_bipush (v := 64) hx hb dX11_rowsOf_29 (by decide) ?_
            obtain ⟨ht, hf⟩ := h
            refine lv_icmp_ge (tgt := 60) hx hb dX11_rowsOf_31 (by decide) (fun c9 => ?_) (fun c9 => ?_)
            · have h := ht c9
              refine lv_aload_n hx hb dX11_rowsOf_60 rfl (lv_at hl 0 rfl) ?_
              refine lv_dup hx hb dX11_rowsOf_61 rfl ?_
              refine va_get (D := G) (ci := 10) (v := .int t_listedMany) (C := RX11) (T := TX11) (N := 29) hx hb hts inX11 hown hK hP 0 rfl rfl 26 (by decide) hf230 (fun _ h9 => h9) rfl dX11_rowsOf_62 ?_
              refine lv_iconst (v := 1) hx hb dX11_rowsOf_65 (by decide) ?_
              refine lv_iadd hx hb dX11_rowsOf_66 ?_
              refine va_put (D := G) (ci := 10) (v := .int (t_listedMany + (1 : Int32))) (ty := .int) (C := RX11) (T := TX11) (N := 29) hx hb hts inX11 tyX11 tyX11_ok nmX11 hown hK hP hD hS 0 rfl rfl 26 (by decide) hf230 (fun _ h9 => h9) rfl (by decide +kernel) rfl rfl (Nat.le_of_ble_eq_true rfl) dX11_rowsOf_67 (fun H locs hP hD hS => ?_)
              have hP : va_P G vwCl (w_X11_rowsOf Y h_t B_t t_thrown t_n t_modulus t_rows t_strands t_letters (t_listedMany + (1 : Int32)) t_listN t_listWhat t_best t_f t_g t_listed t_made t_table) H := hP
              have hD : va_D A (w_X11_rowsOf Y h_t B_t t_thrown t_n t_modulus t_rows t_strands t_letters (t_listedMany + (1 : Int32)) t_listN t_listWhat t_best t_f t_g t_listed t_made t_table) := hD
              exact hret (t_listedMany + (1 : Int32)) t_best t_f t_g t_listed t_made t_table H locs ls _ hP hD hS h dX11_rowsOf_70
            · have h := hf c9
              refine lv_aload_n hx hb dX11_rowsOf_34 rfl (lv_at hl 0 rfl) ?_
              refine va_get (D := G) (ci := 10) (v := .ref (B_t 25)) (C := RX11) (T := TX11) (N := 29) hx hb hts inX11 hown hK hP 0 rfl rfl 25 (by decide) hf80 (fun _ h9 => h9) rfl dX11_rowsOf_35 ?_
              refine lv_bipush (v := 64) hx hb dX11_rowsOf_38 (by decide) ?_
              refine lv_aload_n hx hb dX11_rowsOf_40 rfl (lv_at hl 0 rfl) ?_
              refine va_get (D := G) (ci := 10) (v := .int t_listedMany) (C := RX11) (T := TX11) (N := 29) hx hb hts inX11 hown hK hP 0 rfl rfl 26 (by decide) hf230 (fun _ h9 => h9) rfl dX11_rowsOf_41 ?_
              refine lv_imul hx hb dX11_rowsOf_44 ?_
              refine lv_iload_n hx hb dX11_rowsOf_45 rfl (lv_at hl 1 rfl) ?_
              refine lv_iadd hx hb dX11_rowsOf_46 ?_
              refine lv_aload_n hx hb dX11_rowsOf_47 rfl (lv_at hl 0 rfl) ?_
              refine va_get (D := G) (ci := 10) (v := .ref (B_t 2)) (C := RX11) (T := TX11) (N := 29) hx hb hts inX11 hown hK hP 0 rfl rfl 2 (by decide) hf13 (fun _ h9 => h9) rfl dX11_rowsOf_48 ?_
              refine lv_iload_n hx hb dX11_rowsOf_51 rfl (lv_at hl 1 rfl) ?_
              obtain ⟨hin, h⟩ := h
              refine va_iald hx hb hK hP 6 0 rfl rfl hin dX11_rowsOf_52 ?_
              obtain ⟨hin, h⟩ := h
              refine va_iast hx hb hK hP hD hS 4 0 rfl rfl hin dX11_rowsOf_53 (fun H locs hP hD hS => ?_)
              have hP : va_P G vwCl (w_X11_rowsOf Y h_t B_t t_thrown t_n t_modulus t_rows t_strands t_letters t_listedMany t_listN t_listWhat t_best t_f t_g (upd t_listed (Int32.toNatClampNeg (((64 : Int32) * t_listedMany) + x3)) (t_table (Int32.toNatClampNeg x3))) t_made t_table) H := hP
              have hD : va_D A (w_X11_rowsOf Y h_t B_t t_thrown t_n t_modulus t_rows t_strands t_letters t_listedMany t_listN t_listWhat t_best t_f t_g (upd t_listed (Int32.toNatClampNeg (((64 : Int32) * t_listedMany) + x3)) (t_table (Int32.toNatClampNeg x3))) t_made t_table) := hD
              refine lv_iinc (v := (x3 + 1)) (lv' := [(3, .int (x3 + 1)), (0, .ref h_t)]) hx hb dX11_rowsOf_54 hl (k := 1) rfl rfl (by decide) rfl (fun ls hl => ?_)
              refine lv_goto (tgt := 28) hx hb dX11_rowsOf_57 (by decide) ?_
              exact rec28 (x3 + 1) (upd t_listed (Int32.toNatClampNeg (((64 : Int32) * t_listedMany) + x3)) (t_table (Int32.toNatClampNeg x3))) H locs ls h hP hD hS (lv_sub hl [1, 0] rfl)
        exact L28 t_listedMany t_best_16 t_f_16 t_g t_made_16 t_table I28 m28 hB28 _ (0 : Int32) t_listed H locs ls hI28 (Nat.lt_succ_self _) hP hD hS (lv_sub hl [1, 0] rfl)

set_option maxHeartbeats 20000000 in
set_option maxRecDepth 100000 in
theorem cs_X11_rowsOf (l : Launch) (d : Nat) (G : va_G) (Y : Nat → ClassId) (tF sz : Nat) (h_t : Nat) (B_t : Nat → Nat) (t_thrown : Int32) (t_n : Int32) (t_modulus : Int32) (t_rows : Int32) (t_strands : Int32) (t_letters : Int32) (t_listedMany : Int32) (t_listN : Int32) (t_listWhat : Int32) (t_best : Nat → Int32) (t_f : Nat → Int32) (t_g : Nat → Int32) (t_listed : Nat → Int32) (t_made : Nat → Int32) (t_table : Nat → Int32) (x1 : Int32) (x2 : Int32) {K : Int32 → (Nat → Int32) → (Nat → Int32) → (Nat → Int32) → (Nat → Int32) → (Nat → Int32) → (Nat → Int32) → Prop} (hrec : ∀ (sz : Nat) (h_t : Nat) (B_t : Nat → Nat) (t_thrown : Int32) (t_n : Int32) (t_modulus : Int32) (t_rows : Int32) (t_strands : Int32) (t_letters : Int32) (t_listedMany : Int32) (t_listN : Int32) (t_listWhat : Int32) (t_best : Nat → Int32) (t_f : Nat → Int32) (t_g : Nat → Int32) (t_listed : Nat → Int32) (t_made : Nat → Int32) (t_table : Nat → Int32) (x1 : Int32) (x2 : Int32) {K : Int32 → (Nat → Int32) → (Nat → Int32) → (Nat → Int32) → (Nat → Int32) → (Nat → Int32) → (Nat → Int32) → Prop}, pX11_rowsOf d t_n t_listedMany t_best t_f t_g t_listed t_made t_table x1 x2 K → Met l yX11_rowsOf wsX11_rowsOf ({ frames := (13 + d), cells := 0, slots := 0, locals := (271 + d * 24) }) (PcM G Y tF sz (w_X11_rowsOf Y h_t B_t t_thrown t_n t_modulus t_rows t_strands t_letters t_listedMany t_listN t_listWhat t_best t_f t_g t_listed t_made t_table) [.ref h_t, .int x1, .int x2]) (va_Qv (fun u : Int32 × (Nat → Int32) × (Nat → Int32) × (Nat → Int32) × (Nat → Int32) × (Nat → Int32) × (Nat → Int32) => K u.1 u.2.1 u.2.2.1 u.2.2.2.1 u.2.2.2.2.1 u.2.2.2.2.2.1 u.2.2.2.2.2.2) (fun u t => BM G Y (va_A (w_X11_rowsOf Y h_t B_t t_thrown t_n t_modulus t_rows t_strands t_letters t_listedMany t_listN t_listWhat t_best t_f t_g t_listed t_made t_table) sz) (w_X11_rowsOf Y h_t B_t t_thrown t_n t_modulus t_rows t_strands t_letters u.1 t_listN t_listWhat u.2.1 u.2.2.1 u.2.2.2.1 u.2.2.2.2.1 u.2.2.2.2.2.1 u.2.2.2.2.2.2) t) (va_A (w_X11_rowsOf Y h_t B_t t_thrown t_n t_modulus t_rows t_strands t_letters t_listedMany t_listN t_listWhat t_best t_f t_g t_listed t_made t_table) sz)) 0 0 (va_A (w_X11_rowsOf Y h_t B_t t_thrown t_n t_modulus t_rows t_strands t_letters t_listedMany t_listN t_listWhat t_best t_f t_g t_listed t_made t_table) sz)) (h : pX11_rowsOf (d + 1) t_n t_listedMany t_best t_f t_g t_listed t_made t_table x1 x2 K) : Met l yX11_rowsOf wsX11_rowsOf ({ frames := (13 + (d + 1)), cells := 0, slots := 0, locals := (271 + (d + 1) * 24) }) (PcM G Y tF sz (w_X11_rowsOf Y h_t B_t t_thrown t_n t_modulus t_rows t_strands t_letters t_listedMany t_listN t_listWhat t_best t_f t_g t_listed t_made t_table) [.ref h_t, .int x1, .int x2]) (va_Qv (fun u : Int32 × (Nat → Int32) × (Nat → Int32) × (Nat → Int32) × (Nat → Int32) × (Nat → Int32) × (Nat → Int32) => K u.1 u.2.1 u.2.2.1 u.2.2.2.1 u.2.2.2.2.1 u.2.2.2.2.2.1 u.2.2.2.2.2.2) (fun u t => BM G Y (va_A (w_X11_rowsOf Y h_t B_t t_thrown t_n t_modulus t_rows t_strands t_letters t_listedMany t_listN t_listWhat t_best t_f t_g t_listed t_made t_table) sz) (w_X11_rowsOf Y h_t B_t t_thrown t_n t_modulus t_rows t_strands t_letters u.1 t_listN t_listWhat u.2.1 u.2.2.1 u.2.2.2.1 u.2.2.2.2.1 u.2.2.2.2.2.1 u.2.2.2.2.2.2) t) (va_A (w_X11_rowsOf Y h_t B_t t_thrown t_n t_modulus t_rows t_strands t_letters t_listedMany t_listN t_listWhat t_best t_f t_g t_listed t_made t_table) sz)) 0 0 (va_A (w_X11_rowsOf Y h_t B_t t_thrown t_n t_modulus t_rows t_strands t_letters t_listedMany t_listN t_listWhat t_best t_f t_g t_listed t_made t_table) sz) := by
  refine Met.ofW (cc := cX11_rowsOf) (maxL := 5) (ret := none) (by decide +kernel) rfl ?_
  intro p e s m args below meth c s₁ B hml hv
  obtain ⟨rfl, hsz, hP, hK, hD0, hE⟩ := hv
  have hts := atoms_spec (ws := wsX11_rowsOf) B.pre
  have hown : s.vm.findClass RX11 = some m.cls := findClass_of_methodNamed B.named
  have hlocks := B.notSynchronized
  subst hsz
  have hD := hD0.self (sz := s.heap.size)
  exact wk_X11_rowsOf h_t B_t t_thrown t_n t_modulus t_rows t_strands t_letters t_listedMany t_listN t_listWhat t_best t_f t_g t_listed t_made t_table x1 x2 (rec := pX11_rowsOf d) (fB := (13 + d)) (lB := (271 + d * 24)) (by show _ ≤ _; simp only [headSpec]; omega) (by show _ ≤ _; simp only [headSpec]; omega) (fun sz h_t B_t t_thrown t_n t_modulus t_rows t_strands t_letters t_listedMany t_listN t_listWhat t_best t_f t_g t_listed t_made t_table x1 x2 _ hh => hrec sz h_t B_t t_thrown t_n t_modulus t_rows t_strands t_letters t_listedMany t_listN t_listWhat t_best t_f t_g t_listed t_made t_table x1 x2 hh) B.exec B.bytes hml hown hts hK hE (fun q h => Or.inr h) (by show _ ≤ _; simp only [headSpec]; omega) (by show _ ≤ _; simp only [headSpec]; omega) (fun t_listedMany t_best t_f t_g t_listed t_made t_table H locs ls pc hP hD hS hk hd => W.vret B.exec B.bytes B.returns (fun t ht hW => ⟨⟨(t_listedMany, t_best, t_f, t_g, t_listed, t_made, t_table), rfl, hk, by rw [ht]; exact hP, va_K.moved hW.alike hK, hD⟩, hS.F ht⟩) hS.2.2 hd) hP hD h

theorem c_X11_rowsOf (d : Nat) (l : Launch) (G : va_G) (Y : Nat → ClassId) (tF sz : Nat) (h_t : Nat) (B_t : Nat → Nat) (t_thrown : Int32) (t_n : Int32) (t_modulus : Int32) (t_rows : Int32) (t_strands : Int32) (t_letters : Int32) (t_listedMany : Int32) (t_listN : Int32) (t_listWhat : Int32) (t_best : Nat → Int32) (t_f : Nat → Int32) (t_g : Nat → Int32) (t_listed : Nat → Int32) (t_made : Nat → Int32) (t_table : Nat → Int32) (x1 : Int32) (x2 : Int32) {K : Int32 → (Nat → Int32) → (Nat → Int32) → (Nat → Int32) → (Nat → Int32) → (Nat → Int32) → (Nat → Int32) → Prop} (h : pX11_rowsOf d t_n t_listedMany t_best t_f t_g t_listed t_made t_table x1 x2 K) : Met l yX11_rowsOf wsX11_rowsOf ({ frames := (13 + d), cells := 0, slots := 0, locals := (271 + d * 24) }) (PcM G Y tF sz (w_X11_rowsOf Y h_t B_t t_thrown t_n t_modulus t_rows t_strands t_letters t_listedMany t_listN t_listWhat t_best t_f t_g t_listed t_made t_table) [.ref h_t, .int x1, .int x2]) (va_Qv (fun u : Int32 × (Nat → Int32) × (Nat → Int32) × (Nat → Int32) × (Nat → Int32) × (Nat → Int32) × (Nat → Int32) => K u.1 u.2.1 u.2.2.1 u.2.2.2.1 u.2.2.2.2.1 u.2.2.2.2.2.1 u.2.2.2.2.2.2) (fun u t => BM G Y (va_A (w_X11_rowsOf Y h_t B_t t_thrown t_n t_modulus t_rows t_strands t_letters t_listedMany t_listN t_listWhat t_best t_f t_g t_listed t_made t_table) sz) (w_X11_rowsOf Y h_t B_t t_thrown t_n t_modulus t_rows t_strands t_letters u.1 t_listN t_listWhat u.2.1 u.2.2.1 u.2.2.2.1 u.2.2.2.2.1 u.2.2.2.2.2.1 u.2.2.2.2.2.2) t) (va_A (w_X11_rowsOf Y h_t B_t t_thrown t_n t_modulus t_rows t_strands t_letters t_listedMany t_listN t_listWhat t_best t_f t_g t_listed t_made t_table) sz)) 0 0 (va_A (w_X11_rowsOf Y h_t B_t t_thrown t_n t_modulus t_rows t_strands t_letters t_listedMany t_listN t_listWhat t_best t_f t_g t_listed t_made t_table) sz) := by
  induction d generalizing sz h_t B_t t_thrown t_n t_modulus t_rows t_strands t_letters t_listedMany t_listN t_listWhat t_best t_f t_g t_listed t_made t_table x1 x2 K with
  | zero => exact h.elim
  | succ d ih => exact cs_X11_rowsOf l d G Y tF sz h_t B_t t_thrown t_n t_modulus t_rows t_strands t_letters t_listedMany t_listN t_listWhat t_best t_f t_g t_listed t_made t_table x1 x2 (fun sz h_t B_t t_thrown t_n t_modulus t_rows t_strands t_letters t_listedMany t_listN t_listWhat t_best t_f t_g t_listed t_made t_table x1 x2 _ hh => ih sz h_t B_t t_thrown t_n t_modulus t_rows t_strands t_letters t_listedMany t_listN t_listWhat t_best t_f t_g t_listed t_made t_table x1 x2 hh) h

abbrev w_X11_lists (Y : Nat → ClassId) (h_t : Nat) (B_t : Nat → Nat) (t_thrown : Int32) (t_n : Int32) (t_modulus : Int32) (t_rows : Int32) (t_strands : Int32) (t_letters : Int32) (t_listedMany : Int32) (t_listN : Int32) (t_listWhat : Int32) (t_best : Nat → Int32) (t_f : Nat → Int32) (t_g : Nat → Int32) (t_listed : Nat → Int32) (t_made : Nat → Int32) (t_stored : Nat → Int32) (t_table : Nat → Int32) : va_W := [(h_t, .inr (10, [.int t_thrown, .int t_n, .ref (B_t 2), .int t_modulus, .ref (B_t 4), .ref (B_t 5), .ref (B_t 6), .ref (B_t 7), .ref (B_t 8), .ref (B_t 9), .ref (B_t 10), .int t_rows, .ref (B_t 12), .ref (B_t 13), .ref (B_t 14), .ref (B_t 15), .ref (B_t 16), .ref (B_t 17), .ref (B_t 18), .ref (B_t 19), .int t_strands, .int t_letters, .ref (B_t 22), .ref (B_t 23), .ref (B_t 24), .ref (B_t 25), .int t_listedMany, .int t_listN, .int t_listWhat])), ((B_t 16), .inl (Y 0, 64, .inl t_best)), ((B_t 5), .inl (Y 0, 8, .inl t_f)), ((B_t 6), .inl (Y 0, 8, .inl t_g)), ((B_t 25), .inl (Y 0, 2560, .inl t_listed)), ((B_t 17), .inl (Y 0, 64, .inl t_made)), ((B_t 24), .inl (Y 0, 64, .inl t_stored)), ((B_t 2), .inl (Y 0, 64, .inl t_table))]

set_option maxHeartbeats 20000000 in
set_option maxRecDepth 100000 in
theorem wk_X11_lists {p : Program} {l : Launch} {e : Env} {R : Room} {s : State} {m : MethodId} {args : Array Value} {below : List Frame} {meth : Method} {c : Code} {Q : State → Prop} {G : va_G} {Y : Nat → ClassId} {tF : Nat} {A : Nat → Prop} (h_t : Nat) (B_t : Nat → Nat) (t_thrown : Int32) (t_n : Int32) (t_modulus : Int32) (t_rows : Int32) (t_strands : Int32) (t_letters : Int32) (t_listedMany : Int32) (t_listN : Int32) (t_listWhat : Int32) (t_best : Nat → Int32) (t_f : Nat → Int32) (t_g : Nat → Int32) (t_listed : Nat → Int32) (t_made : Nat → Int32) (t_stored : Nat → Int32) (t_table : Nat → Int32) (x1 : Int32) (x2 : Int32) {K : Int32 → Int32 → Int32 → Int32 → (Nat → Int32) → (Nat → Int32) → (Nat → Int32) → (Nat → Int32) → (Nat → Int32) → (Nat → Int32) → (Nat → Int32) → Prop} (hx : p.tables.exec = Jvm.exec) (hb : c.code = cX11_lists) (hml : c.maxLocals = 5) (hown : s.vm.findClass RX11 = some m.cls) (hts : ∀ w ∈ wsX11_lists, w.before args s = true) (hK : va_K G vwCl (tyL Y) s) (hE : Ev A tF s) (hA : ∀ q, s.heap.size ≤ q → A q) (hRf : 20 ≤ R.frames) (hRl : 439 ≤ R.locals) (hret : ∀ (t_n : Int32) (t_listedMany : Int32) (t_listN : Int32) (t_listWhat : Int32) (t_best : Nat → Int32) (t_f : Nat → Int32) (t_g : Nat → Int32) (t_listed : Nat → Int32) (t_made : Nat → Int32) (t_stored : Nat → Int32) (t_table : Nat → Int32) (H : Heap) (locs : List Loc) (ls : Array Slot) (pc : Nat), va_P G vwCl (w_X11_lists Y h_t B_t t_thrown t_n t_modulus t_rows t_strands t_letters t_listedMany t_listN t_listWhat t_best t_f t_g t_listed t_made t_stored t_table) H → va_D A (w_X11_lists Y h_t B_t t_thrown t_n t_modulus t_rows t_strands t_letters t_listedMany t_listN t_listWhat t_best t_f t_g t_listed t_made t_stored t_table) → va_S A s.heap H locs → K t_n t_listedMany t_listN t_listWhat t_best t_f t_g t_listed t_made t_stored t_table → decode cX11_lists pc = .ok (.return_, 1) → W p l e R s m args below meth c H locs 0 0 Q (F0 m pc ls [])) (hP : va_P G vwCl (w_X11_lists Y h_t B_t t_thrown t_n t_modulus t_rows t_strands t_letters t_listedMany t_listN t_listWhat t_best t_f t_g t_listed t_made t_stored t_table) s.heap) (hD : va_D A (w_X11_lists Y h_t B_t t_thrown t_n t_modulus t_rows t_strands t_letters t_listedMany t_listN t_listWhat t_best t_f t_g t_listed t_made t_stored t_table)) (h : pX11_lists t_n t_listedMany t_listN t_listWhat t_best t_f t_g t_listed t_made t_stored t_table x1 x2 K) : W p l e R s m args below meth c s.heap [] 0 0 Q (entryFrame m ([.ref h_t, .int x1, .int x2] : List Value).toArray 5) := by
  have inX11 : ∀ w ∈ u_ws RX11 TX11 29, w ∈ wsX11_lists := by decide +kernel
  have hf13 := hts (.fieldLink RX11 13 "RackBenchModel" "table" "[I") (by decide +kernel)
  have hf224 := hts (.fieldLink RX11 224 "RackBenchModel" "listN" "I") (by decide +kernel)
  have hf227 := hts (.fieldLink RX11 227 "RackBenchModel" "listWhat" "I") (by decide +kernel)
  have hf230 := hts (.fieldLink RX11 230 "RackBenchModel" "listedMany" "I") (by decide +kernel)
  have hf77 := hts (.fieldLink RX11 77 "RackBenchModel" "stored" "[I") (by decide +kernel)
  have hf9 := hts (.fieldLink RX11 9 "RackBenchModel" "n" "I") (by decide +kernel)
  have hl := lv_entry ([.ref h_t, .int x1, .int x2]) (n := 5) (Nat.le_of_ble_eq_true rfl)
  rw [lg_entry_eq]
  generalize (lg_sl ([.ref h_t, .int x1, .int x2]) ++ List.replicate (5 - (lg_sl ([.ref h_t, .int x1, .int x2])).length) Slot.unset).toArray = ls at hl ⊢
  have hl : lv_has ls 5 [(0, .ref h_t), (1, .int x1), (2, .int x2)] := hl
  generalize hH0 : s.heap = H at hP ⊢
  have hS : va_S A s.heap H [] := by rw [← hH0]; exact va_S.rf
  clear hH0
  generalize ([] : List Loc) = locs at hS ⊢
  have J17 : ∀ (x1 : Int32) (x2 : Int32) (t_n : Int32) (t_listedMany : Int32) (t_listN : Int32) (t_listWhat : Int32) (t_best : Nat → Int32) (t_f : Nat → Int32) (t_g : Nat → Int32) (t_listed : Nat → Int32) (t_made : Nat → Int32) (t_stored : Nat → Int32) (t_table : Nat → Int32) (H : Heap) (locs : List Loc) (ls : Array Slot), pX11_lists_17 K x1 x2 t_n t_listedMany t_listN t_listWhat t_best t_f t_g t_listed t_made t_stored t_table → va_P G vwCl (w_X11_lists Y h_t B_t t_thrown t_n t_modulus t_rows t_strands t_letters t_listedMany t_listN t_listWhat t_best t_f t_g t_listed t_made t_stored t_table) H → va_D A (w_X11_lists Y h_t B_t t_thrown t_n t_modulus t_rows t_strands t_letters t_listedMany t_listN t_listWhat t_best t_f t_g t_listed t_made t_stored t_table) → va_S A s.heap H locs → lv_has ls 5 [(0, .ref h_t), (1, .int x1), (2, .int x2)] → W p l e R s m args below meth c H locs 0 0 Q (F0 m 17 ls []) := by
    intro x1 x2 t_n t_listedMany t_listN t_listWhat t_best t_f t_g t_listed t_made t_stored t_table H locs ls h hP hD hS hl
    refine lv_aload_n hx hb dX11_lists_17 rfl (lv_at hl 0 rfl) ?_
    refine lv_iload_n hx hb dX11_lists_18 rfl (lv_at hl 1 rfl) ?_
    refine va_put (D := G) (ci := 10) (v := .int x1) (ty := .int) (C := RX11) (T := TX11) (N := 29) hx hb hts inX11 tyX11 tyX11_ok nmX11 hown hK hP hD hS 0 rfl rfl 27 (by decide) hf224 (fun _ h9 => h9) rfl (by decide +kernel) rfl rfl (Nat.le_of_ble_eq_true rfl) dX11_lists_19 (fun H locs hP hD hS => ?_)
    have hP : va_P G vwCl (w_X11_lists Y h_t B_t t_thrown t_n t_modulus t_rows t_strands t_letters t_listedMany x1 t_listWhat t_best t_f t_g t_listed t_made t_stored t_table) H := hP
    have hD : va_D A (w_X11_lists Y h_t B_t t_thrown t_n t_modulus t_rows t_strands t_letters t_listedMany x1 t_listWhat t_best t_f t_g t_listed t_made t_stored t_table) := hD
    refine lv_aload_n hx hb dX11_lists_22 rfl (lv_at hl 0 rfl) ?_
    refine lv_iload_n hx hb dX11_lists_23 rfl (lv_at hl 2 rfl) ?_
    refine va_put (D := G) (ci := 10) (v := .int x2) (ty := .int) (C := RX11) (T := TX11) (N := 29) hx hb hts inX11 tyX11 tyX11_ok nmX11 hown hK hP hD hS 0 rfl rfl 28 (by decide) hf227 (fun _ h9 => h9) rfl (by decide +kernel) rfl rfl (Nat.le_of_ble_eq_true rfl) dX11_lists_24 (fun H locs hP hD hS => ?_)
    have hP : va_P G vwCl (w_X11_lists Y h_t B_t t_thrown t_n t_modulus t_rows t_strands t_letters t_listedMany x1 x2 t_best t_f t_g t_listed t_made t_stored t_table) H := hP
    have hD : va_D A (w_X11_lists Y h_t B_t t_thrown t_n t_modulus t_rows t_strands t_letters t_listedMany x1 x2 t_best t_f t_g t_listed t_made t_stored t_table) := hD
    refine lv_aload_n hx hb dX11_lists_27 rfl (lv_at hl 0 rfl) ?_
    refine va_get (D := G) (ci := 10) (v := .int t_n) (C := RX11) (T := TX11) (N := 29) hx hb hts inX11 hown hK hP 0 rfl rfl 1 (by decide) hf9 (fun _ h9 => h9) rfl dX11_lists_28 ?_
    refine lv_istore_n (lv' := [(3, .int t_n), (0, .ref h_t), (1, .int x1), (2, .int x2)]) hx hb dX11_lists_31 rfl hl (by decide) rfl (fun ls hl => ?_)
    refine lv_iconst (v := 0) hx hb dX11_lists_32 (by decide) ?_
    refine lv_istore (lv' := [(4, .int (0 : Int32)), (3, .int t_n), (0, .ref h_t), (1, .int x1), (2, .int x2)]) hx hb dX11_lists_33 hl (by decide) rfl (fun ls hl => ?_)
    obtain ⟨I35, m35, hI35, hB35⟩ := h
    have L35 : ∀ (x1 : Int32) (x2 : Int32) (x3 : Int32) (t_n : Int32) (t_listedMany : Int32) (t_listN : Int32) (t_listWhat : Int32) (t_best : Nat → Int32) (t_f : Nat → Int32) (t_g : Nat → Int32) (t_listed : Nat → Int32) (t_made : Nat → Int32) (t_table : Nat → Int32) (I35 : Int32 → (Nat → Int32) → Prop) (m35 : Int32 → (Nat → Int32) → Nat), (∀ (x4 : Int32) (t_stored : Nat → Int32), I35 x4 t_stored → pX11_lists_35 K x1 x2 x3 t_n t_listedMany t_listN t_listWhat t_best t_f t_g t_listed t_made t_table x4 t_stored (fun x4' t_stored' => I35 x4' t_stored' ∧ m35 x4' t_stored' < m35 x4 t_stored)) → ∀ (n : Nat) (x4 : Int32) (t_stored : Nat → Int32) (H : Heap) (locs : List Loc) (ls : Array Slot), I35 x4 t_stored → m35 x4 t_stored < n → va_P G vwCl (w_X11_lists Y h_t B_t t_thrown t_n t_modulus t_rows t_strands t_letters t_listedMany t_listN t_listWhat t_best t_f t_g t_listed t_made t_stored t_table) H → va_D A (w_X11_lists Y h_t B_t t_thrown t_n t_modulus t_rows t_strands t_letters t_listedMany t_listN t_listWhat t_best t_f t_g t_listed t_made t_stored t_table) → va_S A s.heap H locs → lv_has ls 5 [(0, .ref h_t), (1, .int x1), (2, .int x2), (3, .int x3), (4, .int x4)] → W p l e R s m args below meth c H locs 0 0 Q (F0 m 35 ls []) := by
      intro x1 x2 x3 t_n t_listedMany t_listN t_listWhat t_best t_f t_g t_listed t_made t_table I35 m35 hB35 n
      induction n with
      | zero => intro x4 t_stored H locs ls _ hm; exact absurd hm (Nat.not_lt_zero _)
      | succ n ih =>
        intro x4 t_stored H locs ls hI hm hP hD hS hl
        obtain ⟨R35, h, rec35⟩ : ∃ R35 : Int32 → (Nat → Int32) → Prop, pX11_lists_35 K x1 x2 x3 t_n t_listedMany t_listN t_listWhat t_best t_f t_g t_listed t_made t_table x4 t_stored R35 ∧ ∀ (x4 : Int32) (t_stored : Nat → Int32) (H : Heap) (locs : List Loc) (ls : Array Slot), R35 x4 t_stored → va_P G vwCl (w_X11_lists Y h_t B_t t_thrown t_n t_modulus t_rows t_strands t_letters t_listedMany t_listN t_listWhat t_best t_f t_g t_listed t_made t_stored t_table) H → va_D A (w_X11_lists Y h_t B_t t_thrown t_n t_modulus t_rows t_strands t_letters t_listedMany t_listN t_listWhat t_best t_f t_g t_listed t_made t_stored t_table) → va_S A s.heap H locs → lv_has ls 5 [(0, .ref h_t), (1, .int x1), (2, .int x2), (3, .int x3), (4, .int x4)] → W p l e R s m args below meth c H locs 0 0 Q (F0 m 35 ls []) := ⟨_, hB35 x4 t_stored hI, fun x4 t_stored H locs ls hh hP hD hS hl => ih x4 t_stored H locs ls hh.1 (Nat.lt_of_lt_of_le hh.2 (Nat.le_of_lt_succ hm)) hP hD hS hl⟩
        refine lv_iload hx hb dX11_lists_35 (lv_at hl 4 rfl) ?_
        refine lv_bipush (v := 64) hx hb dX11_lists_37 (by decide) ?_
        obtain ⟨ht, hf⟩ := h
        refine lv_icmp_ge (tgt := 62) hx hb dX11_lists_39 (by decide) (fun c9 => ?_) (fun c9 => ?_)
        · have h := ht c9
          refine lv_aload_n hx hb dX11_lists_62 rfl (lv_at hl 0 rfl) ?_
          refine lv_iload_n hx hb dX11_lists_63 rfl (lv_at hl 1 rfl) ?_
          refine va_put (D := G) (ci := 10) (v := .int x1) (ty := .int) (C := RX11) (T := TX11) (N := 29) hx hb hts inX11 tyX11 tyX11_ok nmX11 hown hK hP hD hS 0 rfl rfl 1 (by decide) hf9 (fun _ h9 => h9) rfl (by decide +kernel) rfl rfl (Nat.le_of_ble_eq_true rfl) dX11_lists_64 (fun H locs hP hD hS => ?_)
          have hP : va_P G vwCl (w_X11_lists Y h_t B_t t_thrown x1 t_modulus t_rows t_strands t_letters t_listedMany t_listN t_listWhat t_best t_f t_g t_listed t_made t_stored t_table) H := hP
          have hD : va_D A (w_X11_lists Y h_t B_t t_thrown x1 t_modulus t_rows t_strands t_letters t_listedMany t_listN t_listWhat t_best t_f t_g t_listed t_made t_stored t_table) := hD
          refine lv_aload_n hx hb dX11_lists_67 rfl (lv_at hl 0 rfl) ?_
          refine lv_iconst (v := 0) hx hb dX11_lists_68 (by decide) ?_
          refine va_put (D := G) (ci := 10) (v := .int (0 : Int32)) (ty := .int) (C := RX11) (T := TX11) (N := 29) hx hb hts inX11 tyX11 tyX11_ok nmX11 hown hK hP hD hS 0 rfl rfl 26 (by decide) hf230 (fun _ h9 => h9) rfl (by decide +kernel) rfl rfl (Nat.le_of_ble_eq_true rfl) dX11_lists_69 (fun H locs hP hD hS => ?_)
          have hP : va_P G vwCl (w_X11_lists Y h_t B_t t_thrown x1 t_modulus t_rows t_strands t_letters (0 : Int32) t_listN t_listWhat t_best t_f t_g t_listed t_made t_stored t_table) H := hP
          have hD : va_D A (w_X11_lists Y h_t B_t t_thrown x1 t_modulus t_rows t_strands t_letters (0 : Int32) t_listN t_listWhat t_best t_f t_g t_listed t_made t_stored t_table) := hD
          refine lv_aload_n hx hb dX11_lists_72 rfl (lv_at hl 0 rfl) ?_
          refine lv_iconst (v := 0) hx hb dX11_lists_73 (by decide) ?_
          refine lv_iload_n hx hb dX11_lists_74 rfl (lv_at hl 2 rfl) ?_
          refine mc_vV ⟨hx, hb, hml, hown, hts⟩ hK hE hA hP hD hS (c_X11_rowsOf 6 l G Y tF H.size h_t B_t t_thrown x1 t_modulus t_rows t_strands t_letters (0 : Int32) t_listN t_listWhat t_best t_f t_g t_listed t_made t_table (0 : Int32) x2 h) (cwV 2 hts gX11_lists_X11_rowsOf rfl rfl rfl (by decide +kernel) ⟨Nat.le_trans (by decide) hRf, Nat.le_trans (by decide) hRl⟩) (fun u => (w_X11_lists Y h_t B_t t_thrown x1 t_modulus t_rows t_strands t_letters u.1 t_listN t_listWhat u.2.1 u.2.2.1 u.2.2.2.1 u.2.2.2.2.1 u.2.2.2.2.2.1 t_stored u.2.2.2.2.2.2)) [0, 1, 2, 3, 4, 5, 7] [6] [1, 2, 3, 4, 5, 6, 0, 7] rfl rfl rfl rfl (by decide) (fun _ => rfl) rfl 0 10 rfl rfl rfl rfl hl.1 rfl (Nat.le_of_ble_eq_true rfl) dX11_lists_75 (fun u H locs h hP hD hS => ?_)
          obtain ⟨t_listedMany_75, t_best_75, t_f_75, t_g_75, t_listed_75, t_made_75, t_table_75⟩ := u
          try dsimp only at h
          have hP : va_P G vwCl (w_X11_lists Y h_t B_t t_thrown x1 t_modulus t_rows t_strands t_letters t_listedMany_75 t_listN t_listWhat t_best_75 t_f_75 t_g_75 t_listed_75 t_made_75 t_stored t_table_75) H := hP
          have hD : va_D A (w_X11_lists Y h_t B_t t_thrown x1 t_modulus t_rows t_strands t_letters t_listedMany_75 t_listN t_listWhat t_best_75 t_f_75 t_g_75 t_listed_75 t_made_75 t_stored t_table_75) := hD
          refine lv_aload_n hx hb dX11_lists_78 rfl (lv_at hl 0 rfl) ?_
          refine lv_iload_n hx hb dX11_lists_79 rfl (lv_at hl 3 rfl) ?_
          refine va_put (D := G) (ci := 10) (v := .int x3) (ty := .int) (C := RX11) (T := TX11) (N := 29) hx hb hts inX11 tyX11 tyX11_ok nmX11 hown hK hP hD hS 0 rfl rfl 1 (by decide) hf9 (fun _ h9 => h9) rfl (by decide +kernel) rfl rfl (Nat.le_of_ble_eq_true rfl) dX11_lists_80 (fun H locs hP hD hS => ?_)
          have hP : va_P G vwCl (w_X11_lists Y h_t B_t t_thrown x3 t_modulus t_rows t_strands t_letters t_listedMany_75 t_listN t_listWhat t_best_75 t_f_75 t_g_75 t_listed_75 t_made_75 t_stored t_table_75) H := hP
          have hD : va_D A (w_X11_lists Y h_t B_t t_thrown x3 t_modulus t_rows t_strands t_letters t_listedMany_75 t_listN t_listWhat t_best_75 t_f_75 t_g_75 t_listed_75 t_made_75 t_stored t_table_75) := hD
          refine lv_iconst (v := 0) hx hb dX11_lists_83 (by decide) ?_
          refine lv_istore (lv' := [(4, .int (0 : Int32)), (0, .ref h_t), (1, .int x1), (2, .int x2), (3, .int x3)]) hx hb dX11_lists_84 hl (by decide) rfl (fun ls hl => ?_)
          obtain ⟨I86, m86, hI86, hB86⟩ := h
          have L86 : ∀ (t_n : Int32) (t_listedMany : Int32) (t_listN : Int32) (t_listWhat : Int32) (t_best : Nat → Int32) (t_f : Nat → Int32) (t_g : Nat → Int32) (t_listed : Nat → Int32) (t_made : Nat → Int32) (t_stored : Nat → Int32) (I86 : Int32 → (Nat → Int32) → Prop) (m86 : Int32 → (Nat → Int32) → Nat), (∀ (x4 : Int32) (t_table : Nat → Int32), I86 x4 t_table → pX11_lists_86 R35 K t_n t_listedMany t_listN t_listWhat t_best t_f t_g t_listed t_made t_stored x4 t_table (fun x4' t_table' => I86 x4' t_table' ∧ m86 x4' t_table' < m86 x4 t_table)) → ∀ (n : Nat) (x4 : Int32) (t_table : Nat → Int32) (H : Heap) (locs : List Loc) (ls : Array Slot), I86 x4 t_table → m86 x4 t_table < n → va_P G vwCl (w_X11_lists Y h_t B_t t_thrown t_n t_modulus t_rows t_strands t_letters t_listedMany t_listN t_listWhat t_best t_f t_g t_listed t_made t_stored t_table) H → va_D A (w_X11_lists Y h_t B_t t_thrown t_n t_modulus t_rows t_strands t_letters t_listedMany t_listN t_listWhat t_best t_f t_g t_listed t_made t_stored t_table) → va_S A s.heap H locs → lv_has ls 5 [(0, .ref h_t), (4, .int x4)] → W p l e R s m args below meth c H locs 0 0 Q (F0 m 86 ls []) := by
            intro t_n t_listedMany t_listN t_listWhat t_best t_f t_g t_listed t_made t_stored I86 m86 hB86 n
            induction n with
            | zero => intro x4 t_table H locs ls _ hm; exact absurd hm (Nat.not_lt_zero _)
            | succ n ih =>
              intro x4 t_table H locs ls hI hm hP hD hS hl
              obtain ⟨R86, h, rec86⟩ : ∃ R86 : Int32 → (Nat → Int32) → Prop, pX11_lists_86 R35 K t_n t_listedMany t_listN t_listWhat t_best t_f t_g t_listed t_made t_stored x4 t_table R86 ∧ ∀ (x4 : Int32) (t_table : Nat → Int32) (H : Heap) (locs : List Loc) (ls : Array Slot), R86 x4 t_table → va_P G vwCl (w_X11_lists Y h_t B_t t_thrown t_n t_modulus t_rows t_strands t_letters t_listedMany t_listN t_listWhat t_best t_f t_g t_listed t_made t_stored t_table) H → va_D A (w_X11_lists Y h_t B_t t_thrown t_n t_modulus t_rows t_strands t_letters t_listedMany t_listN t_listWhat t_best t_f t_g t_listed t_made t_stored t_table) → va_S A s.heap H locs → lv_has ls 5 [(0, .ref h_t), (4, .int x4)] → W p l e R s m args below meth c H locs 0 0 Q (F0 m 86 ls []) := ⟨_, hB86 x4 t_table hI, fun x4 t_table H locs ls hh hP hD hS hl => ih x4 t_table H locs ls hh.1 (Nat.lt_of_lt_of_le hh.2 (Nat.le_of_lt_succ hm)) hP hD hS hl⟩
              refine lv_iload hx hb dX11_lists_86 (lv_at hl 1 rfl) ?_
              refine lv_bipush (v := 64) hx hb dX11_lists_88 (by decide) ?_
              obtain ⟨ht, hf⟩ := h
              refine lv_icmp_ge (tgt := 113) hx hb dX11_lists_90 (by decide) (fun c9 => ?_) (fun c9 => ?_)
              · have h := ht c9
                exact hret t_n t_listedMany t_listN t_listWhat t_best t_f t_g t_listed t_made t_stored t_table H locs ls _ hP hD hS h dX11_lists_113
              · have h := hf c9
                refine lv_aload_n hx hb dX11_lists_93 rfl (lv_at hl 0 rfl) ?_
                refine va_get (D := G) (ci := 10) (v := .ref (B_t 2)) (C := RX11) (T := TX11) (N := 29) hx hb hts inX11 hown hK hP 0 rfl rfl 2 (by decide) hf13 (fun _ h9 => h9) rfl dX11_lists_94 ?_
                refine lv_iload hx hb dX11_lists_97 (lv_at hl 1 rfl) ?_
                refine lv_aload_n hx hb dX11_lists_99 rfl (lv_at hl 0 rfl) ?_
                refine va_get (D := G) (ci := 10) (v := .ref (B_t 24)) (C := RX11) (T := TX11) (N := 29) hx hb hts inX11 hown hK hP 0 rfl rfl 24 (by decide) hf77 (fun _ h9 => h9) rfl dX11_lists_100 ?_
                refine lv_iload hx hb dX11_lists_103 (lv_at hl 1 rfl) ?_
                obtain ⟨hin, h⟩ := h
                refine va_iald hx hb hK hP 6 0 rfl rfl hin dX11_lists_105 ?_
                obtain ⟨hin, h⟩ := h
                refine va_iast hx hb hK hP hD hS 7 0 rfl rfl hin dX11_lists_106 (fun H locs hP hD hS => ?_)
                have hP : va_P G vwCl (w_X11_lists Y h_t B_t t_thrown t_n t_modulus t_rows t_strands t_letters t_listedMany t_listN t_listWhat t_best t_f t_g t_listed t_made t_stored (upd t_table (Int32.toNatClampNeg x4) (t_stored (Int32.toNatClampNeg x4)))) H := hP
                have hD : va_D A (w_X11_lists Y h_t B_t t_thrown t_n t_modulus t_rows t_strands t_letters t_listedMany t_listN t_listWhat t_best t_f t_g t_listed t_made t_stored (upd t_table (Int32.toNatClampNeg x4) (t_stored (Int32.toNatClampNeg x4)))) := hD
                refine lv_iinc (v := (x4 + 1)) (lv' := [(4, .int (x4 + 1)), (0, .ref h_t)]) hx hb dX11_lists_107 hl (k := 1) rfl rfl (by decide) rfl (fun ls hl => ?_)
                refine lv_goto (tgt := 86) hx hb dX11_lists_110 (by decide) ?_
                exact rec86 (x4 + 1) (upd t_table (Int32.toNatClampNeg x4) (t_stored (Int32.toNatClampNeg x4))) H locs ls h hP hD hS (lv_sub hl [1, 0] rfl)
          exact L86 x3 t_listedMany_75 t_listN t_listWhat t_best_75 t_f_75 t_g_75 t_listed_75 t_made_75 t_stored I86 m86 hB86 _ (0 : Int32) t_table_75 H locs ls hI86 (Nat.lt_succ_self _) hP hD hS (lv_sub hl [1, 0] rfl)
        · have h := hf c9
          refine lv_aload_n hx hb dX11_lists_42 rfl (lv_at hl 0 rfl) ?_
          refine va_get (D := G) (ci := 10) (v := .ref (B_t 24)) (C := RX11) (T := TX11) (N := 29) hx hb hts inX11 hown hK hP 0 rfl rfl 24 (by decide) hf77 (fun _ h9 => h9) rfl dX11_lists_43 ?_
          refine lv_iload hx hb dX11_lists_46 (lv_at hl 4 rfl) ?_
          refine lv_aload_n hx hb dX11_lists_48 rfl (lv_at hl 0 rfl) ?_
          refine va_get (D := G) (ci := 10) (v := .ref (B_t 2)) (C := RX11) (T := TX11) (N := 29) hx hb hts inX11 hown hK hP 0 rfl rfl 2 (by decide) hf13 (fun _ h9 => h9) rfl dX11_lists_49 ?_
          refine lv_iload hx hb dX11_lists_52 (lv_at hl 4 rfl) ?_
          obtain ⟨hin, h⟩ := h
          refine va_iald hx hb hK hP 7 0 rfl rfl hin dX11_lists_54 ?_
          obtain ⟨hin, h⟩ := h
          refine va_iast hx hb hK hP hD hS 6 0 rfl rfl hin dX11_lists_55 (fun H locs hP hD hS => ?_)
          have hP : va_P G vwCl (w_X11_lists Y h_t B_t t_thrown t_n t_modulus t_rows t_strands t_letters t_listedMany t_listN t_listWhat t_best t_f t_g t_listed t_made (upd t_stored (Int32.toNatClampNeg x4) (t_table (Int32.toNatClampNeg x4))) t_table) H := hP
          have hD : va_D A (w_X11_lists Y h_t B_t t_thrown t_n t_modulus t_rows t_strands t_letters t_listedMany t_listN t_listWhat t_best t_f t_g t_listed t_made (upd t_stored (Int32.toNatClampNeg x4) (t_table (Int32.toNatClampNeg x4))) t_table) := hD
          refine lv_iinc (v := (x4 + 1)) (lv' := [(4, .int (x4 + 1)), (0, .ref h_t), (1, .int x1), (2, .int x2), (3, .int x3)]) hx hb dX11_lists_56 hl (k := 4) rfl rfl (by decide) rfl (fun ls hl => ?_)
          refine lv_goto (tgt := 35) hx hb dX11_lists_59 (by decide) ?_
          exact rec35 (x4 + 1) (upd t_stored (Int32.toNatClampNeg x4) (t_table (Int32.toNatClampNeg x4))) H locs ls h hP hD hS (lv_sub hl [1, 2, 3, 4, 0] rfl)
    exact L35 x1 x2 t_n t_n t_listedMany x1 x2 t_best t_f t_g t_listed t_made t_table I35 m35 hB35 _ (0 : Int32) t_stored H locs ls hI35 (Nat.lt_succ_self _) hP hD hS (lv_sub hl [2, 3, 4, 1, 0] rfl)
  refine lv_iload_n hx hb dX11_lists_0 rfl (lv_at hl 1 rfl) ?_
  refine lv_aload_n hx hb dX11_lists_1 rfl (lv_at hl 0 rfl) ?_
  refine va_get (D := G) (ci := 10) (v := .int t_listN) (C := RX11) (T := TX11) (N := 29) hx hb hts inX11 hown hK hP 0 rfl rfl 27 (by decide) hf224 (fun _ h9 => h9) rfl dX11_lists_2 ?_
  obtain ⟨ht, hf⟩ := h
  refine lv_icmp_ne (tgt := 17) hx hb dX11_lists_5 (by decide) (fun c9 => ?_) (fun c9 => ?_)
  · have h := ht c9
    exact J17 x1 x2 t_n t_listedMany t_listN t_listWhat t_best t_f t_g t_listed t_made t_stored t_table H locs ls h hP hD hS (lv_sub hl [0, 1, 2] rfl)
  · have h := hf c9
    refine lv_iload_n hx hb dX11_lists_8 rfl (lv_at hl 2 rfl) ?_
    refine lv_aload_n hx hb dX11_lists_9 rfl (lv_at hl 0 rfl) ?_
    refine va_get (D := G) (ci := 10) (v := .int t_listWhat) (C := RX11) (T := TX11) (N := 29) hx hb hts inX11 hown hK hP 0 rfl rfl 28 (by decide) hf227 (fun _ h9 => h9) rfl dX11_lists_10 ?_
    obtain ⟨ht, hf⟩ := h
    refine lv_icmp_ne (tgt := 17) hx hb dX11_lists_13 (by decide) (fun c9 => ?_) (fun c9 => ?_)
    · have h := ht c9
      exact J17 x1 x2 t_n t_listedMany t_listN t_listWhat t_best t_f t_g t_listed t_made t_stored t_table H locs ls h hP hD hS (lv_sub hl [0, 1, 2] rfl)
    · have h := hf c9
      exact hret t_n t_listedMany t_listN t_listWhat t_best t_f t_g t_listed t_made t_stored t_table H locs ls _ hP hD hS h dX11_lists_16

set_option maxHeartbeats 20000000 in
set_option maxRecDepth 100000 in
theorem c_X11_lists (l : Launch) (G : va_G) (Y : Nat → ClassId) (tF sz : Nat) (h_t : Nat) (B_t : Nat → Nat) (t_thrown : Int32) (t_n : Int32) (t_modulus : Int32) (t_rows : Int32) (t_strands : Int32) (t_letters : Int32) (t_listedMany : Int32) (t_listN : Int32) (t_listWhat : Int32) (t_best : Nat → Int32) (t_f : Nat → Int32) (t_g : Nat → Int32) (t_listed : Nat → Int32) (t_made : Nat → Int32) (t_stored : Nat → Int32) (t_table : Nat → Int32) (x1 : Int32) (x2 : Int32) {K : Int32 → Int32 → Int32 → Int32 → (Nat → Int32) → (Nat → Int32) → (Nat → Int32) → (Nat → Int32) → (Nat → Int32) → (Nat → Int32) → (Nat → Int32) → Prop} (h : pX11_lists t_n t_listedMany t_listN t_listWhat t_best t_f t_g t_listed t_made t_stored t_table x1 x2 K) : Met l yX11_lists wsX11_lists ({ frames := 20, cells := 0, slots := 0, locals := 439 }) (PcM G Y tF sz (w_X11_lists Y h_t B_t t_thrown t_n t_modulus t_rows t_strands t_letters t_listedMany t_listN t_listWhat t_best t_f t_g t_listed t_made t_stored t_table) [.ref h_t, .int x1, .int x2]) (va_Qv (fun u : Int32 × Int32 × Int32 × Int32 × (Nat → Int32) × (Nat → Int32) × (Nat → Int32) × (Nat → Int32) × (Nat → Int32) × (Nat → Int32) × (Nat → Int32) => K u.1 u.2.1 u.2.2.1 u.2.2.2.1 u.2.2.2.2.1 u.2.2.2.2.2.1 u.2.2.2.2.2.2.1 u.2.2.2.2.2.2.2.1 u.2.2.2.2.2.2.2.2.1 u.2.2.2.2.2.2.2.2.2.1 u.2.2.2.2.2.2.2.2.2.2) (fun u t => BM G Y (va_A (w_X11_lists Y h_t B_t t_thrown t_n t_modulus t_rows t_strands t_letters t_listedMany t_listN t_listWhat t_best t_f t_g t_listed t_made t_stored t_table) sz) (w_X11_lists Y h_t B_t t_thrown u.1 t_modulus t_rows t_strands t_letters u.2.1 u.2.2.1 u.2.2.2.1 u.2.2.2.2.1 u.2.2.2.2.2.1 u.2.2.2.2.2.2.1 u.2.2.2.2.2.2.2.1 u.2.2.2.2.2.2.2.2.1 u.2.2.2.2.2.2.2.2.2.1 u.2.2.2.2.2.2.2.2.2.2) t) (va_A (w_X11_lists Y h_t B_t t_thrown t_n t_modulus t_rows t_strands t_letters t_listedMany t_listN t_listWhat t_best t_f t_g t_listed t_made t_stored t_table) sz)) 0 0 (va_A (w_X11_lists Y h_t B_t t_thrown t_n t_modulus t_rows t_strands t_letters t_listedMany t_listN t_listWhat t_best t_f t_g t_listed t_made t_stored t_table) sz) := by
  refine Met.ofW (cc := cX11_lists) (maxL := 5) (ret := none) (by decide +kernel) rfl ?_
  intro p e s m args below meth c s₁ B hml hv
  obtain ⟨rfl, hsz, hP, hK, hD0, hE⟩ := hv
  have hts := atoms_spec (ws := wsX11_lists) B.pre
  have hown : s.vm.findClass RX11 = some m.cls := findClass_of_methodNamed B.named
  have hlocks := B.notSynchronized
  subst hsz
  have hD := hD0.self (sz := s.heap.size)
  exact wk_X11_lists h_t B_t t_thrown t_n t_modulus t_rows t_strands t_letters t_listedMany t_listN t_listWhat t_best t_f t_g t_listed t_made t_stored t_table x1 x2 B.exec B.bytes hml hown hts hK hE (fun q h => Or.inr h) (Nat.le_refl _) (Nat.le_refl _) (fun t_n t_listedMany t_listN t_listWhat t_best t_f t_g t_listed t_made t_stored t_table H locs ls pc hP hD hS hk hd => W.vret B.exec B.bytes B.returns (fun t ht hW => ⟨⟨(t_n, t_listedMany, t_listN, t_listWhat, t_best, t_f, t_g, t_listed, t_made, t_stored, t_table), rfl, hk, by rw [ht]; exact hP, va_K.moved hW.alike hK, hD⟩, hS.F ht⟩) hS.2.2 hd) hP hD h

abbrev w_X11_isList (Y : Nat → ClassId) : va_W := []

set_option maxHeartbeats 20000000 in
set_option maxRecDepth 100000 in
theorem wk_X11_isList {p : Program} {l : Launch} {e : Env} {R : Room} {s : State} {m : MethodId} {args : Array Value} {below : List Frame} {meth : Method} {c : Code} {Q : State → Prop} {G : va_G} {Y : Nat → ClassId} {tF : Nat} {A : Nat → Prop} (x0 : Int32) (x1 : Int32) {K : Int32 → Prop} (hx : p.tables.exec = Jvm.exec) (hb : c.code = cX11_isList) (hml : c.maxLocals = 2) (hown : s.vm.findClass RX11 = some m.cls) (hts : ∀ w ∈ wsX11_isList, w.before args s = true) (hK : va_K G vwCl (tyL Y) s) (hE : Ev A tF s) (hA : ∀ q, s.heap.size ≤ q → A q) (hRf : 1 ≤ R.frames) (hRl : 25 ≤ R.locals) (hret : ∀ (r : Int32)  (H : Heap) (locs : List Loc) (ls : Array Slot) (pc : Nat), va_P G vwCl (w_X11_isList Y) H → va_D A (w_X11_isList Y) → va_S A s.heap H locs → zb r → K r → decode cX11_isList pc = .ok (.ireturn, 1) → W p l e R s m args below meth c H locs 0 0 Q (F0 m pc ls [.int r])) (hP : va_P G vwCl (w_X11_isList Y) s.heap) (hD : va_D A (w_X11_isList Y)) (h : pX11_isList x0 x1 K) : W p l e R s m args below meth c s.heap [] 0 0 Q (entryFrame m ([.int x0, .int x1] : List Value).toArray 2) := by
  have hcL163 := hts (.constantLong RX11 163 (4)) (by decide +kernel)
  have hl := lv_entry ([.int x0, .int x1]) (n := 2) (Nat.le_of_ble_eq_true rfl)
  rw [lg_entry_eq]
  generalize (lg_sl ([.int x0, .int x1]) ++ List.replicate (2 - (lg_sl ([.int x0, .int x1])).length) Slot.unset).toArray = ls at hl ⊢
  have hl : lv_has ls 2 [(0, .int x0), (1, .int x1)] := hl
  generalize hH0 : s.heap = H at hP ⊢
  have hS : va_S A s.heap H [] := by rw [← hH0]; exact va_S.rf
  clear hH0
  generalize ([] : List Loc) = locs at hS ⊢
  have J26 : ∀  (H : Heap) (locs : List Loc) (ls : Array Slot), pX11_isList_26 K → va_P G vwCl (w_X11_isList Y) H → va_D A (w_X11_isList Y) → va_S A s.heap H locs → lv_has ls 2 [] → W p l e R s m args below meth c H locs 0 0 Q (F0 m 26 ls []) := by
    intro  H locs ls h hP hD hS hl
    refine lv_iconst (v := 0) hx hb dX11_isList_26 (by decide) ?_
    obtain ⟨hz, h⟩ := h
    exact hret (0 : Int32)  H locs ls _ hP hD hS hz h dX11_isList_27
  refine lv_iload_n hx hb dX11_isList_0 rfl (lv_at hl 0 rfl) ?_
  refine lv_i2l hx hb dX11_isList_1 rfl ?_
  refine lv_lconst (v := 1) hx hb dX11_isList_2 (by decide) ?_
  refine lv_ldc2 (v := 4) hx hb hown hcL163 dX11_isList_3 ?_
  refine mc_iS ⟨hx, hb, hml, hown, hts⟩ hK hE hA hP hD hS (c_X11_in l G Y tF H.size (Int32.toInt64 x0) (1 : Int64) (4 : Int64) h) (va_cwS 3 hts gX11_isList_X11_in rfl rfl rfl (by decide +kernel) ⟨Nat.le_trans (by decide) hRf, Nat.le_trans (by decide) hRl⟩) (fun u => (w_X11_isList Y)) [] [] [] rfl rfl rfl rfl (by decide) (fun _ => rfl) rfl rfl hl.1 rfl (Nat.le_of_ble_eq_true rfl) dX11_isList_6 (fun r6 u H locs h hP hD hS => ?_)
  try dsimp only at h
  have hP : va_P G vwCl (w_X11_isList Y) H := hP
  have hD : va_D A (w_X11_isList Y) := hD
  obtain ⟨ht, hf⟩ := h
  refine lv_if_eq (tgt := 26) hx hb dX11_isList_9 (by decide) (fun c9 => ?_) (fun c9 => ?_)
  · have h := ht c9
    exact J26  H locs ls h hP hD hS (lv_sub hl [] rfl)
  · have h := hf c9
    refine lv_iload_n hx hb dX11_isList_12 rfl (lv_at hl 1 rfl) ?_
    refine lv_i2l hx hb dX11_isList_13 rfl ?_
    refine lv_lconst (v := 0) hx hb dX11_isList_14 (by decide) ?_
    refine lv_lconst (v := 1) hx hb dX11_isList_15 (by decide) ?_
    refine mc_iS ⟨hx, hb, hml, hown, hts⟩ hK hE hA hP hD hS (c_X11_in l G Y tF H.size (Int32.toInt64 x1) (0 : Int64) (1 : Int64) h) (va_cwS 3 hts gX11_isList_X11_in rfl rfl rfl (by decide +kernel) ⟨Nat.le_trans (by decide) hRf, Nat.le_trans (by decide) hRl⟩) (fun u => (w_X11_isList Y)) [] [] [] rfl rfl rfl rfl (by decide) (fun _ => rfl) rfl rfl hl.1 rfl (Nat.le_of_ble_eq_true rfl) dX11_isList_16 (fun r16 u H locs h hP hD hS => ?_)
    try dsimp only at h
    have hP : va_P G vwCl (w_X11_isList Y) H := hP
    have hD : va_D A (w_X11_isList Y) := hD
    obtain ⟨ht, hf⟩ := h
    refine lv_if_eq (tgt := 26) hx hb dX11_isList_19 (by decide) (fun c9 => ?_) (fun c9 => ?_)
    · have h := ht c9
      exact J26  H locs ls h hP hD hS (lv_sub hl [] rfl)
    · have h := hf c9
      refine lv_iconst (v := 1) hx hb dX11_isList_22 (by decide) ?_
      refine lv_goto (tgt := 27) hx hb dX11_isList_23 (by decide) ?_
      obtain ⟨hz, h⟩ := h
      exact hret (1 : Int32)  H locs ls _ hP hD hS hz h dX11_isList_27

set_option maxHeartbeats 20000000 in
set_option maxRecDepth 100000 in
theorem c_X11_isList (l : Launch) (G : va_G) (Y : Nat → ClassId) (tF sz : Nat) (x0 : Int32) (x1 : Int32) {K : Int32 → Prop} (h : pX11_isList x0 x1 K) : Met l yX11_isList wsX11_isList ({ frames := 1, cells := 0, slots := 0, locals := 25 }) (PcM G Y tF sz (w_X11_isList Y) [.int x0, .int x1]) (va_Qi (fun (r : Int32) (u : Unit) => K r ) (fun u t => BM G Y (va_A (w_X11_isList Y) sz) (w_X11_isList Y) t) (va_A (w_X11_isList Y) sz)) 0 0 (va_A (w_X11_isList Y) sz) := by
  refine Met.ofW (cc := cX11_isList) (maxL := 2) (ret := (some .boolean)) (by decide +kernel) rfl ?_
  intro p e s m args below meth c s₁ B hml hv
  obtain ⟨rfl, hsz, hP, hK, hD0, hE⟩ := hv
  have hts := atoms_spec (ws := wsX11_isList) B.pre
  have hown : s.vm.findClass RX11 = some m.cls := findClass_of_methodNamed B.named
  have hlocks := B.notSynchronized
  subst hsz
  have hD := hD0.self (sz := s.heap.size)
  exact wk_X11_isList x0 x1 B.exec B.bytes hml hown hts hK hE (fun q h => Or.inr h) (Nat.le_refl _) (Nat.le_refl _) (fun r  H locs ls pc hP hD hS hz hk hd => W.zret (v := r) B.exec B.bytes B.returns hz.n (fun t ht hW => ⟨⟨r, (), rfl, hk, by rw [ht]; exact hP, va_K.moved hW.alike hK, hD⟩, hS.F ht⟩) hS.2.2 hd) hP hD h

abbrev w_X11_listed (Y : Nat → ClassId) (h_t : Nat) (B_t : Nat → Nat) (t_thrown : Int32) (t_n : Int32) (t_modulus : Int32) (t_rows : Int32) (t_strands : Int32) (t_letters : Int32) (t_listedMany : Int32) (t_listN : Int32) (t_listWhat : Int32) (t_best : Nat → Int32) (t_f : Nat → Int32) (t_g : Nat → Int32) (t_listed : Nat → Int32) (t_made : Nat → Int32) (t_stored : Nat → Int32) (t_table : Nat → Int32) : va_W := [(h_t, .inr (10, [.int t_thrown, .int t_n, .ref (B_t 2), .int t_modulus, .ref (B_t 4), .ref (B_t 5), .ref (B_t 6), .ref (B_t 7), .ref (B_t 8), .ref (B_t 9), .ref (B_t 10), .int t_rows, .ref (B_t 12), .ref (B_t 13), .ref (B_t 14), .ref (B_t 15), .ref (B_t 16), .ref (B_t 17), .ref (B_t 18), .ref (B_t 19), .int t_strands, .int t_letters, .ref (B_t 22), .ref (B_t 23), .ref (B_t 24), .ref (B_t 25), .int t_listedMany, .int t_listN, .int t_listWhat])), ((B_t 16), .inl (Y 0, 64, .inl t_best)), ((B_t 5), .inl (Y 0, 8, .inl t_f)), ((B_t 6), .inl (Y 0, 8, .inl t_g)), ((B_t 25), .inl (Y 0, 2560, .inl t_listed)), ((B_t 17), .inl (Y 0, 64, .inl t_made)), ((B_t 24), .inl (Y 0, 64, .inl t_stored)), ((B_t 2), .inl (Y 0, 64, .inl t_table))]

set_option maxHeartbeats 20000000 in
set_option maxRecDepth 100000 in
theorem wk_X11_listed {p : Program} {l : Launch} {e : Env} {R : Room} {s : State} {m : MethodId} {args : Array Value} {below : List Frame} {meth : Method} {c : Code} {Q : State → Prop} {G : va_G} {Y : Nat → ClassId} {tF : Nat} {A : Nat → Prop} (h_t : Nat) (B_t : Nat → Nat) (t_thrown : Int32) (t_n : Int32) (t_modulus : Int32) (t_rows : Int32) (t_strands : Int32) (t_letters : Int32) (t_listedMany : Int32) (t_listN : Int32) (t_listWhat : Int32) (t_best : Nat → Int32) (t_f : Nat → Int32) (t_g : Nat → Int32) (t_listed : Nat → Int32) (t_made : Nat → Int32) (t_stored : Nat → Int32) (t_table : Nat → Int32) (x1 : Int32) (x2 : Int32) {K : Int32 → Int32 → Int32 → Int32 → Int32 → Int32 → (Nat → Int32) → (Nat → Int32) → (Nat → Int32) → (Nat → Int32) → (Nat → Int32) → (Nat → Int32) → (Nat → Int32) → Prop} (hx : p.tables.exec = Jvm.exec) (hb : c.code = cX11_listed) (hml : c.maxLocals = 3) (hown : s.vm.findClass RX11 = some m.cls) (hts : ∀ w ∈ wsX11_listed, w.before args s = true) (hK : va_K G vwCl (tyL Y) s) (hE : Ev A tF s) (hA : ∀ q, s.heap.size ≤ q → A q) (hRf : 21 ≤ R.frames) (hRl : 463 ≤ R.locals) (hret : ∀ (r : Int32) (t_thrown : Int32) (t_n : Int32) (t_listedMany : Int32) (t_listN : Int32) (t_listWhat : Int32) (t_best : Nat → Int32) (t_f : Nat → Int32) (t_g : Nat → Int32) (t_listed : Nat → Int32) (t_made : Nat → Int32) (t_stored : Nat → Int32) (t_table : Nat → Int32) (H : Heap) (locs : List Loc) (ls : Array Slot) (pc : Nat), va_P G vwCl (w_X11_listed Y h_t B_t t_thrown t_n t_modulus t_rows t_strands t_letters t_listedMany t_listN t_listWhat t_best t_f t_g t_listed t_made t_stored t_table) H → va_D A (w_X11_listed Y h_t B_t t_thrown t_n t_modulus t_rows t_strands t_letters t_listedMany t_listN t_listWhat t_best t_f t_g t_listed t_made t_stored t_table) → va_S A s.heap H locs → K r t_thrown t_n t_listedMany t_listN t_listWhat t_best t_f t_g t_listed t_made t_stored t_table → decode cX11_listed pc = .ok (.ireturn, 1) → W p l e R s m args below meth c H locs 0 0 Q (F0 m pc ls [.int r])) (hP : va_P G vwCl (w_X11_listed Y h_t B_t t_thrown t_n t_modulus t_rows t_strands t_letters t_listedMany t_listN t_listWhat t_best t_f t_g t_listed t_made t_stored t_table) s.heap) (hD : va_D A (w_X11_listed Y h_t B_t t_thrown t_n t_modulus t_rows t_strands t_letters t_listedMany t_listN t_listWhat t_best t_f t_g t_listed t_made t_stored t_table)) (h : pX11_listed t_thrown t_n t_listedMany t_listN t_listWhat t_best t_f t_g t_listed t_made t_stored t_table x1 x2 K) : W p l e R s m args below meth c s.heap [] 0 0 Q (entryFrame m ([.ref h_t, .int x1, .int x2] : List Value).toArray 3) := by
  have inX11 : ∀ w ∈ u_ws RX11 TX11 29, w ∈ wsX11_listed := by decide +kernel
  have hf230 := hts (.fieldLink RX11 230 "RackBenchModel" "listedMany" "I") (by decide +kernel)
  have hf83 := hts (.fieldLink RX11 83 "RackBenchModel" "thrown" "I") (by decide +kernel)
  have hl := lv_entry ([.ref h_t, .int x1, .int x2]) (n := 3) (Nat.le_of_ble_eq_true rfl)
  rw [lg_entry_eq]
  generalize (lg_sl ([.ref h_t, .int x1, .int x2]) ++ List.replicate (3 - (lg_sl ([.ref h_t, .int x1, .int x2])).length) Slot.unset).toArray = ls at hl ⊢
  have hl : lv_has ls 3 [(0, .ref h_t), (1, .int x1), (2, .int x2)] := hl
  generalize hH0 : s.heap = H at hP ⊢
  have hS : va_S A s.heap H [] := by rw [← hH0]; exact va_S.rf
  clear hH0
  generalize ([] : List Loc) = locs at hS ⊢
  refine lv_aload_n hx hb dX11_listed_0 rfl (lv_at hl 0 rfl) ?_
  refine lv_iconst (v := 0) hx hb dX11_listed_1 (by decide) ?_
  refine va_put (D := G) (ci := 10) (v := .int (0 : Int32)) (ty := .int) (C := RX11) (T := TX11) (N := 29) hx hb hts inX11 tyX11 tyX11_ok nmX11 hown hK hP hD hS 0 rfl rfl 0 (by decide) hf83 (fun _ h9 => h9) rfl (by decide +kernel) rfl rfl (Nat.le_of_ble_eq_true rfl) dX11_listed_2 (fun H locs hP hD hS => ?_)
  have hP : va_P G vwCl (w_X11_listed Y h_t B_t (0 : Int32) t_n t_modulus t_rows t_strands t_letters t_listedMany t_listN t_listWhat t_best t_f t_g t_listed t_made t_stored t_table) H := hP
  have hD : va_D A (w_X11_listed Y h_t B_t (0 : Int32) t_n t_modulus t_rows t_strands t_letters t_listedMany t_listN t_listWhat t_best t_f t_g t_listed t_made t_stored t_table) := hD
  refine lv_iload_n hx hb dX11_listed_5 rfl (lv_at hl 1 rfl) ?_
  refine lv_iload_n hx hb dX11_listed_6 rfl (lv_at hl 2 rfl) ?_
  refine mc_iS ⟨hx, hb, hml, hown, hts⟩ hK hE hA hP hD hS (c_X11_isList l G Y tF H.size x1 x2 h) (va_cwS 2 hts gX11_listed_X11_isList rfl rfl rfl (by decide +kernel) ⟨Nat.le_trans (by decide) hRf, Nat.le_trans (by decide) hRl⟩) (fun u => (w_X11_listed Y h_t B_t (0 : Int32) t_n t_modulus t_rows t_strands t_letters t_listedMany t_listN t_listWhat t_best t_f t_g t_listed t_made t_stored t_table)) [] [0, 1, 2, 3, 4, 5, 6, 7] [0, 1, 2, 3, 4, 5, 6, 7] rfl rfl rfl rfl (by decide) (fun _ => rfl) rfl rfl hl.1 rfl (Nat.le_of_ble_eq_true rfl) dX11_listed_7 (fun r7 u H locs h hP hD hS => ?_)
  try dsimp only at h
  have hP : va_P G vwCl (w_X11_listed Y h_t B_t (0 : Int32) t_n t_modulus t_rows t_strands t_letters t_listedMany t_listN t_listWhat t_best t_f t_g t_listed t_made t_stored t_table) H := hP
  have hD : va_D A (w_X11_listed Y h_t B_t (0 : Int32) t_n t_modulus t_rows t_strands t_letters t_listedMany t_listN t_listWhat t_best t_f t_g t_listed t_made t_stored t_table) := hD
  obtain ⟨ht, hf⟩ := h
  refine lv_if_ne (tgt := 15) hx hb dX11_listed_10 (by decide) (fun c9 => ?_) (fun c9 => ?_)
  · have h := ht c9
    refine lv_aload_n hx hb dX11_listed_15 rfl (lv_at hl 0 rfl) ?_
    refine lv_iload_n hx hb dX11_listed_16 rfl (lv_at hl 1 rfl) ?_
    refine lv_iload_n hx hb dX11_listed_17 rfl (lv_at hl 2 rfl) ?_
    refine mc_vV ⟨hx, hb, hml, hown, hts⟩ hK hE hA hP hD hS (c_X11_lists l G Y tF H.size h_t B_t (0 : Int32) t_n t_modulus t_rows t_strands t_letters t_listedMany t_listN t_listWhat t_best t_f t_g t_listed t_made t_stored t_table x1 x2 h) (cwV 2 hts gX11_listed_X11_lists rfl rfl rfl (by decide +kernel) ⟨Nat.le_trans (by decide) hRf, Nat.le_trans (by decide) hRl⟩) (fun u => (w_X11_listed Y h_t B_t (0 : Int32) u.1 t_modulus t_rows t_strands t_letters u.2.1 u.2.2.1 u.2.2.2.1 u.2.2.2.2.1 u.2.2.2.2.2.1 u.2.2.2.2.2.2.1 u.2.2.2.2.2.2.2.1 u.2.2.2.2.2.2.2.2.1 u.2.2.2.2.2.2.2.2.2.1 u.2.2.2.2.2.2.2.2.2.2)) [0, 1, 2, 3, 4, 5, 6, 7] [] [0, 1, 2, 3, 4, 5, 6, 7] rfl rfl rfl rfl (by decide) (fun _ => rfl) rfl 0 10 rfl rfl rfl rfl hl.1 rfl (Nat.le_of_ble_eq_true rfl) dX11_listed_18 (fun u H locs h hP hD hS => ?_)
    obtain ⟨t_n_18, t_listedMany_18, t_listN_18, t_listWhat_18, t_best_18, t_f_18, t_g_18, t_listed_18, t_made_18, t_stored_18, t_table_18⟩ := u
    try dsimp only at h
    have hP : va_P G vwCl (w_X11_listed Y h_t B_t (0 : Int32) t_n_18 t_modulus t_rows t_strands t_letters t_listedMany_18 t_listN_18 t_listWhat_18 t_best_18 t_f_18 t_g_18 t_listed_18 t_made_18 t_stored_18 t_table_18) H := hP
    have hD : va_D A (w_X11_listed Y h_t B_t (0 : Int32) t_n_18 t_modulus t_rows t_strands t_letters t_listedMany_18 t_listN_18 t_listWhat_18 t_best_18 t_f_18 t_g_18 t_listed_18 t_made_18 t_stored_18 t_table_18) := hD
    refine lv_aload_n hx hb dX11_listed_21 rfl (lv_at hl 0 rfl) ?_
    refine va_get (D := G) (ci := 10) (v := .int t_listedMany_18) (C := RX11) (T := TX11) (N := 29) hx hb hts inX11 hown hK hP 0 rfl rfl 26 (by decide) hf230 (fun _ h9 => h9) rfl dX11_listed_22 ?_
    exact hret t_listedMany_18 (0 : Int32) t_n_18 t_listedMany_18 t_listN_18 t_listWhat_18 t_best_18 t_f_18 t_g_18 t_listed_18 t_made_18 t_stored_18 t_table_18 H locs ls _ hP hD hS h dX11_listed_25
  · have h := hf c9
    refine lv_iconst (v := -1) hx hb dX11_listed_13 (by decide) ?_
    exact hret (-1 : Int32) (0 : Int32) t_n t_listedMany t_listN t_listWhat t_best t_f t_g t_listed t_made t_stored t_table H locs ls _ hP hD hS h dX11_listed_14

set_option maxHeartbeats 20000000 in
set_option maxRecDepth 100000 in
theorem c_X11_listed (l : Launch) (G : va_G) (Y : Nat → ClassId) (tF sz : Nat) (h_t : Nat) (B_t : Nat → Nat) (t_thrown : Int32) (t_n : Int32) (t_modulus : Int32) (t_rows : Int32) (t_strands : Int32) (t_letters : Int32) (t_listedMany : Int32) (t_listN : Int32) (t_listWhat : Int32) (t_best : Nat → Int32) (t_f : Nat → Int32) (t_g : Nat → Int32) (t_listed : Nat → Int32) (t_made : Nat → Int32) (t_stored : Nat → Int32) (t_table : Nat → Int32) (x1 : Int32) (x2 : Int32) {K : Int32 → Int32 → Int32 → Int32 → Int32 → Int32 → (Nat → Int32) → (Nat → Int32) → (Nat → Int32) → (Nat → Int32) → (Nat → Int32) → (Nat → Int32) → (Nat → Int32) → Prop} (h : pX11_listed t_thrown t_n t_listedMany t_listN t_listWhat t_best t_f t_g t_listed t_made t_stored t_table x1 x2 K) : Met l yX11_listed wsX11_listed ({ frames := 21, cells := 0, slots := 0, locals := 463 }) (PcM G Y tF sz (w_X11_listed Y h_t B_t t_thrown t_n t_modulus t_rows t_strands t_letters t_listedMany t_listN t_listWhat t_best t_f t_g t_listed t_made t_stored t_table) [.ref h_t, .int x1, .int x2]) (va_Qi (fun (r : Int32) (u : Int32 × Int32 × Int32 × Int32 × Int32 × (Nat → Int32) × (Nat → Int32) × (Nat → Int32) × (Nat → Int32) × (Nat → Int32) × (Nat → Int32) × (Nat → Int32)) => K r u.1 u.2.1 u.2.2.1 u.2.2.2.1 u.2.2.2.2.1 u.2.2.2.2.2.1 u.2.2.2.2.2.2.1 u.2.2.2.2.2.2.2.1 u.2.2.2.2.2.2.2.2.1 u.2.2.2.2.2.2.2.2.2.1 u.2.2.2.2.2.2.2.2.2.2.1 u.2.2.2.2.2.2.2.2.2.2.2) (fun u t => BM G Y (va_A (w_X11_listed Y h_t B_t t_thrown t_n t_modulus t_rows t_strands t_letters t_listedMany t_listN t_listWhat t_best t_f t_g t_listed t_made t_stored t_table) sz) (w_X11_listed Y h_t B_t u.1 u.2.1 t_modulus t_rows t_strands t_letters u.2.2.1 u.2.2.2.1 u.2.2.2.2.1 u.2.2.2.2.2.1 u.2.2.2.2.2.2.1 u.2.2.2.2.2.2.2.1 u.2.2.2.2.2.2.2.2.1 u.2.2.2.2.2.2.2.2.2.1 u.2.2.2.2.2.2.2.2.2.2.1 u.2.2.2.2.2.2.2.2.2.2.2) t) (va_A (w_X11_listed Y h_t B_t t_thrown t_n t_modulus t_rows t_strands t_letters t_listedMany t_listN t_listWhat t_best t_f t_g t_listed t_made t_stored t_table) sz)) 0 0 (va_A (w_X11_listed Y h_t B_t t_thrown t_n t_modulus t_rows t_strands t_letters t_listedMany t_listN t_listWhat t_best t_f t_g t_listed t_made t_stored t_table) sz) := by
  refine Met.ofW (cc := cX11_listed) (maxL := 3) (ret := (some .int)) (by decide +kernel) rfl ?_
  intro p e s m args below meth c s₁ B hml hv
  obtain ⟨rfl, hsz, hP, hK, hD0, hE⟩ := hv
  have hts := atoms_spec (ws := wsX11_listed) B.pre
  have hown : s.vm.findClass RX11 = some m.cls := findClass_of_methodNamed B.named
  have hlocks := B.notSynchronized
  subst hsz
  have hD := hD0.self (sz := s.heap.size)
  exact wk_X11_listed h_t B_t t_thrown t_n t_modulus t_rows t_strands t_letters t_listedMany t_listN t_listWhat t_best t_f t_g t_listed t_made t_stored t_table x1 x2 B.exec B.bytes hml hown hts hK hE (fun q h => Or.inr h) (Nat.le_refl _) (Nat.le_refl _) (fun r t_thrown t_n t_listedMany t_listN t_listWhat t_best t_f t_g t_listed t_made t_stored t_table H locs ls pc hP hD hS hk hd => W.iret (v := r) B.exec B.bytes B.returns (fun t ht hW => ⟨⟨r, (t_thrown, t_n, t_listedMany, t_listN, t_listWhat, t_best, t_f, t_g, t_listed, t_made, t_stored, t_table), rfl, hk, by rw [ht]; exact hP, va_K.moved hW.alike hK, hD⟩, hS.F ht⟩) hS.2.2 hd) hP hD h

abbrev w_X11_pick (Y : Nat → ClassId) (h_t : Nat) (B_t : Nat → Nat) (t_thrown : Int32) (t_n : Int32) (t_modulus : Int32) (t_rows : Int32) (t_strands : Int32) (t_letters : Int32) (t_listedMany : Int32) (t_listN : Int32) (t_listWhat : Int32) (t_best : Nat → Int32) (t_f : Nat → Int32) (t_g : Nat → Int32) (t_listed : Nat → Int32) (t_made : Nat → Int32) (t_stored : Nat → Int32) (t_table : Nat → Int32) (t_twists : Nat → Int32) : va_W := [(h_t, .inr (10, [.int t_thrown, .int t_n, .ref (B_t 2), .int t_modulus, .ref (B_t 4), .ref (B_t 5), .ref (B_t 6), .ref (B_t 7), .ref (B_t 8), .ref (B_t 9), .ref (B_t 10), .int t_rows, .ref (B_t 12), .ref (B_t 13), .ref (B_t 14), .ref (B_t 15), .ref (B_t 16), .ref (B_t 17), .ref (B_t 18), .ref (B_t 19), .int t_strands, .int t_letters, .ref (B_t 22), .ref (B_t 23), .ref (B_t 24), .ref (B_t 25), .int t_listedMany, .int t_listN, .int t_listWhat])), ((B_t 16), .inl (Y 0, 64, .inl t_best)), ((B_t 5), .inl (Y 0, 8, .inl t_f)), ((B_t 6), .inl (Y 0, 8, .inl t_g)), ((B_t 25), .inl (Y 0, 2560, .inl t_listed)), ((B_t 17), .inl (Y 0, 64, .inl t_made)), ((B_t 24), .inl (Y 0, 64, .inl t_stored)), ((B_t 2), .inl (Y 0, 64, .inl t_table)), ((B_t 4), .inl (Y 0, 64, .inl t_twists))]

set_option maxHeartbeats 20000000 in
set_option maxRecDepth 100000 in
theorem wk_X11_pick {p : Program} {l : Launch} {e : Env} {R : Room} {s : State} {m : MethodId} {args : Array Value} {below : List Frame} {meth : Method} {c : Code} {Q : State → Prop} {G : va_G} {Y : Nat → ClassId} {tF : Nat} {A : Nat → Prop} (h_t : Nat) (B_t : Nat → Nat) (t_thrown : Int32) (t_n : Int32) (t_modulus : Int32) (t_rows : Int32) (t_strands : Int32) (t_letters : Int32) (t_listedMany : Int32) (t_listN : Int32) (t_listWhat : Int32) (t_best : Nat → Int32) (t_f : Nat → Int32) (t_g : Nat → Int32) (t_listed : Nat → Int32) (t_made : Nat → Int32) (t_stored : Nat → Int32) (t_table : Nat → Int32) (t_twists : Nat → Int32) (x1 : Int32) (x2 : Int32) (x3 : Int32) {K : Int32 → Int32 → Int32 → Int32 → Int32 → Int32 → (Nat → Int32) → (Nat → Int32) → (Nat → Int32) → (Nat → Int32) → (Nat → Int32) → (Nat → Int32) → (Nat → Int32) → (Nat → Int32) → Prop} (hx : p.tables.exec = Jvm.exec) (hb : c.code = cX11_pick) (hml : c.maxLocals = 5) (hown : s.vm.findClass RX11 = some m.cls) (hts : ∀ w ∈ wsX11_pick, w.before args s = true) (hK : va_K G vwCl (tyL Y) s) (hE : Ev A tF s) (hA : ∀ q, s.heap.size ≤ q → A q) (hRf : 21 ≤ R.frames) (hRl : 463 ≤ R.locals) (hret : ∀ (r : Int32) (t_thrown : Int32) (t_n : Int32) (t_listedMany : Int32) (t_listN : Int32) (t_listWhat : Int32) (t_best : Nat → Int32) (t_f : Nat → Int32) (t_g : Nat → Int32) (t_listed : Nat → Int32) (t_made : Nat → Int32) (t_stored : Nat → Int32) (t_table : Nat → Int32) (t_twists : Nat → Int32) (H : Heap) (locs : List Loc) (ls : Array Slot) (pc : Nat), va_P G vwCl (w_X11_pick Y h_t B_t t_thrown t_n t_modulus t_rows t_strands t_letters t_listedMany t_listN t_listWhat t_best t_f t_g t_listed t_made t_stored t_table t_twists) H → va_D A (w_X11_pick Y h_t B_t t_thrown t_n t_modulus t_rows t_strands t_letters t_listedMany t_listN t_listWhat t_best t_f t_g t_listed t_made t_stored t_table t_twists) → va_S A s.heap H locs → zb r → K r t_thrown t_n t_listedMany t_listN t_listWhat t_best t_f t_g t_listed t_made t_stored t_table t_twists → decode cX11_pick pc = .ok (.ireturn, 1) → W p l e R s m args below meth c H locs 0 0 Q (F0 m pc ls [.int r])) (hP : va_P G vwCl (w_X11_pick Y h_t B_t t_thrown t_n t_modulus t_rows t_strands t_letters t_listedMany t_listN t_listWhat t_best t_f t_g t_listed t_made t_stored t_table t_twists) s.heap) (hD : va_D A (w_X11_pick Y h_t B_t t_thrown t_n t_modulus t_rows t_strands t_letters t_listedMany t_listN t_listWhat t_best t_f t_g t_listed t_made t_stored t_table t_twists)) (h : pX11_pick t_thrown t_n t_listedMany t_listN t_listWhat t_best t_f t_g t_listed t_made t_stored t_table t_twists x1 x2 x3 K) : W p l e R s m args below meth c s.heap [] 0 0 Q (entryFrame m ([.ref h_t, .int x1, .int x2, .int x3] : List Value).toArray 5) := by
  have inX11 : ∀ w ∈ u_ws RX11 TX11 29, w ∈ wsX11_pick := by decide +kernel
  have hf13 := hts (.fieldLink RX11 13 "RackBenchModel" "table" "[I") (by decide +kernel)
  have hf230 := hts (.fieldLink RX11 230 "RackBenchModel" "listedMany" "I") (by decide +kernel)
  have hf80 := hts (.fieldLink RX11 80 "RackBenchModel" "listed" "[I") (by decide +kernel)
  have hf83 := hts (.fieldLink RX11 83 "RackBenchModel" "thrown" "I") (by decide +kernel)
  have hl := lv_entry ([.ref h_t, .int x1, .int x2, .int x3]) (n := 5) (Nat.le_of_ble_eq_true rfl)
  rw [lg_entry_eq]
  generalize (lg_sl ([.ref h_t, .int x1, .int x2, .int x3]) ++ List.replicate (5 - (lg_sl ([.ref h_t, .int x1, .int x2, .int x3])).length) Slot.unset).toArray = ls at hl ⊢
  have hl : lv_has ls 5 [(0, .ref h_t), (1, .int x1), (2, .int x2), (3, .int x3)] := hl
  generalize hH0 : s.heap = H at hP ⊢
  have hS : va_S A s.heap H [] := by rw [← hH0]; exact va_S.rf
  clear hH0
  generalize ([] : List Loc) = locs at hS ⊢
  refine lv_aload_n hx hb dX11_pick_0 rfl (lv_at hl 0 rfl) ?_
  refine lv_iconst (v := 0) hx hb dX11_pick_1 (by decide) ?_
  refine va_put (D := G) (ci := 10) (v := .int (0 : Int32)) (ty := .int) (C := RX11) (T := TX11) (N := 29) hx hb hts inX11 tyX11 tyX11_ok nmX11 hown hK hP hD hS 0 rfl rfl 0 (by decide) hf83 (fun _ h9 => h9) rfl (by decide +kernel) rfl rfl (Nat.le_of_ble_eq_true rfl) dX11_pick_2 (fun H locs hP hD hS => ?_)
  have hP : va_P G vwCl (w_X11_pick Y h_t B_t (0 : Int32) t_n t_modulus t_rows t_strands t_letters t_listedMany t_listN t_listWhat t_best t_f t_g t_listed t_made t_stored t_table t_twists) H := hP
  have hD : va_D A (w_X11_pick Y h_t B_t (0 : Int32) t_n t_modulus t_rows t_strands t_letters t_listedMany t_listN t_listWhat t_best t_f t_g t_listed t_made t_stored t_table t_twists) := hD
  refine lv_iload_n hx hb dX11_pick_5 rfl (lv_at hl 1 rfl) ?_
  refine lv_iload_n hx hb dX11_pick_6 rfl (lv_at hl 2 rfl) ?_
  refine mc_iS ⟨hx, hb, hml, hown, hts⟩ hK hE hA hP hD hS (c_X11_isList l G Y tF H.size x1 x2 h) (va_cwS 2 hts gX11_pick_X11_isList rfl rfl rfl (by decide +kernel) ⟨Nat.le_trans (by decide) hRf, Nat.le_trans (by decide) hRl⟩) (fun u => (w_X11_pick Y h_t B_t (0 : Int32) t_n t_modulus t_rows t_strands t_letters t_listedMany t_listN t_listWhat t_best t_f t_g t_listed t_made t_stored t_table t_twists)) [] [0, 1, 2, 3, 4, 5, 6, 7, 8] [0, 1, 2, 3, 4, 5, 6, 7, 8] rfl rfl rfl rfl (by decide) (fun _ => rfl) rfl rfl hl.1 rfl (Nat.le_of_ble_eq_true rfl) dX11_pick_7 (fun r7 u H locs h hP hD hS => ?_)
  try dsimp only at h
  have hP : va_P G vwCl (w_X11_pick Y h_t B_t (0 : Int32) t_n t_modulus t_rows t_strands t_letters t_listedMany t_listN t_listWhat t_best t_f t_g t_listed t_made t_stored t_table t_twists) H := hP
  have hD : va_D A (w_X11_pick Y h_t B_t (0 : Int32) t_n t_modulus t_rows t_strands t_letters t_listedMany t_listN t_listWhat t_best t_f t_g t_listed t_made t_stored t_table t_twists) := hD
  obtain ⟨ht, hf⟩ := h
  refine lv_if_ne (tgt := 15) hx hb dX11_pick_10 (by decide) (fun c9 => ?_) (fun c9 => ?_)
  · have h := ht c9
    refine lv_aload_n hx hb dX11_pick_15 rfl (lv_at hl 0 rfl) ?_
    refine lv_iload_n hx hb dX11_pick_16 rfl (lv_at hl 1 rfl) ?_
    refine lv_iload_n hx hb dX11_pick_17 rfl (lv_at hl 2 rfl) ?_
    refine mc_vV ⟨hx, hb, hml, hown, hts⟩ hK hE hA hP hD hS (c_X11_lists l G Y tF H.size h_t B_t (0 : Int32) t_n t_modulus t_rows t_strands t_letters t_listedMany t_listN t_listWhat t_best t_f t_g t_listed t_made t_stored t_table x1 x2 h) (cwV 2 hts gX11_pick_X11_lists rfl rfl rfl (by decide +kernel) ⟨Nat.le_trans (by decide) hRf, Nat.le_trans (by decide) hRl⟩) (fun u => (w_X11_pick Y h_t B_t (0 : Int32) u.1 t_modulus t_rows t_strands t_letters u.2.1 u.2.2.1 u.2.2.2.1 u.2.2.2.2.1 u.2.2.2.2.2.1 u.2.2.2.2.2.2.1 u.2.2.2.2.2.2.2.1 u.2.2.2.2.2.2.2.2.1 u.2.2.2.2.2.2.2.2.2.1 u.2.2.2.2.2.2.2.2.2.2 t_twists)) [0, 1, 2, 3, 4, 5, 6, 7] [8] [1, 2, 3, 4, 5, 6, 7, 8, 0] rfl rfl rfl rfl (by decide) (fun _ => rfl) rfl 0 10 rfl rfl rfl rfl hl.1 rfl (Nat.le_of_ble_eq_true rfl) dX11_pick_18 (fun u H locs h hP hD hS => ?_)
    obtain ⟨t_n_18, t_listedMany_18, t_listN_18, t_listWhat_18, t_best_18, t_f_18, t_g_18, t_listed_18, t_made_18, t_stored_18, t_table_18⟩ := u
    try dsimp only at h
    have hP : va_P G vwCl (w_X11_pick Y h_t B_t (0 : Int32) t_n_18 t_modulus t_rows t_strands t_letters t_listedMany_18 t_listN_18 t_listWhat_18 t_best_18 t_f_18 t_g_18 t_listed_18 t_made_18 t_stored_18 t_table_18 t_twists) H := hP
    have hD : va_D A (w_X11_pick Y h_t B_t (0 : Int32) t_n_18 t_modulus t_rows t_strands t_letters t_listedMany_18 t_listN_18 t_listWhat_18 t_best_18 t_f_18 t_g_18 t_listed_18 t_made_18 t_stored_18 t_table_18 t_twists) := hD
    refine lv_iload_n hx hb dX11_pick_21 rfl (lv_at hl 3 rfl) ?_
    refine lv_i2l hx hb dX11_pick_22 rfl ?_
    refine lv_lconst (v := 0) hx hb dX11_pick_23 (by decide) ?_
    refine lv_aload_n hx hb dX11_pick_24 rfl (lv_at hl 0 rfl) ?_
    refine va_get (D := G) (ci := 10) (v := .int t_listedMany_18) (C := RX11) (T := TX11) (N := 29) hx hb hts inX11 hown hK hP 0 rfl rfl 26 (by decide) hf230 (fun _ h9 => h9) rfl dX11_pick_25 ?_
    refine lv_iconst (v := 1) hx hb dX11_pick_28 (by decide) ?_
    refine lv_isub hx hb dX11_pick_29 ?_
    refine lv_i2l hx hb dX11_pick_30 rfl ?_
    refine mc_iS ⟨hx, hb, hml, hown, hts⟩ hK hE hA hP hD hS (c_X11_in l G Y tF H.size (Int32.toInt64 x3) (0 : Int64) (Int32.toInt64 (t_listedMany_18 - (1 : Int32))) h) (va_cwS 3 hts gX11_pick_X11_in rfl rfl rfl (by decide +kernel) ⟨Nat.le_trans (by decide) hRf, Nat.le_trans (by decide) hRl⟩) (fun u => (w_X11_pick Y h_t B_t (0 : Int32) t_n_18 t_modulus t_rows t_strands t_letters t_listedMany_18 t_listN_18 t_listWhat_18 t_best_18 t_f_18 t_g_18 t_listed_18 t_made_18 t_stored_18 t_table_18 t_twists)) [] [0, 1, 2, 3, 4, 5, 6, 7, 8] [0, 1, 2, 3, 4, 5, 6, 7, 8] rfl rfl rfl rfl (by decide) (fun _ => rfl) rfl rfl hl.1 rfl (Nat.le_of_ble_eq_true rfl) dX11_pick_31 (fun r31 u H locs h hP hD hS => ?_)
    try dsimp only at h
    have hP : va_P G vwCl (w_X11_pick Y h_t B_t (0 : Int32) t_n_18 t_modulus t_rows t_strands t_letters t_listedMany_18 t_listN_18 t_listWhat_18 t_best_18 t_f_18 t_g_18 t_listed_18 t_made_18 t_stored_18 t_table_18 t_twists) H := hP
    have hD : va_D A (w_X11_pick Y h_t B_t (0 : Int32) t_n_18 t_modulus t_rows t_strands t_letters t_listedMany_18 t_listN_18 t_listWhat_18 t_best_18 t_f_18 t_g_18 t_listed_18 t_made_18 t_stored_18 t_table_18 t_twists) := hD
    obtain ⟨ht, hf⟩ := h
    refine lv_if_ne (tgt := 39) hx hb dX11_pick_34 (by decide) (fun c9 => ?_) (fun c9 => ?_)
    · have h := ht c9
      refine lv_aload_n hx hb dX11_pick_39 rfl (lv_at hl 0 rfl) ?_
      refine lv_iload_n hx hb dX11_pick_40 rfl (lv_at hl 1 rfl) ?_
      refine mc_vV ⟨hx, hb, hml, hown, hts⟩ hK hE hA hP hD hS (c_X11_sized l G Y tF H.size h_t B_t (0 : Int32) t_n_18 t_modulus t_rows t_strands t_letters t_listedMany_18 t_listN_18 t_listWhat_18 t_twists x1 h) (cwV 1 hts gX11_pick_X11_sized rfl rfl rfl (by decide +kernel) ⟨Nat.le_trans (by decide) hRf, Nat.le_trans (by decide) hRl⟩) (fun u => (w_X11_pick Y h_t B_t (0 : Int32) u.1 t_modulus t_rows t_strands t_letters t_listedMany_18 t_listN_18 t_listWhat_18 t_best_18 t_f_18 t_g_18 t_listed_18 t_made_18 t_stored_18 t_table_18 u.2)) [0, 8] [1, 2, 3, 4, 5, 6, 7] [7, 0, 1, 2, 3, 4, 5, 6, 8] rfl rfl rfl rfl (by decide) (fun _ => rfl) rfl 0 10 rfl rfl rfl rfl hl.1 rfl (Nat.le_of_ble_eq_true rfl) dX11_pick_41 (fun u H locs h hP hD hS => ?_)
      obtain ⟨t_n_41, t_twists_41⟩ := u
      try dsimp only at h
      have hP : va_P G vwCl (w_X11_pick Y h_t B_t (0 : Int32) t_n_41 t_modulus t_rows t_strands t_letters t_listedMany_18 t_listN_18 t_listWhat_18 t_best_18 t_f_18 t_g_18 t_listed_18 t_made_18 t_stored_18 t_table_18 t_twists_41) H := hP
      have hD : va_D A (w_X11_pick Y h_t B_t (0 : Int32) t_n_41 t_modulus t_rows t_strands t_letters t_listedMany_18 t_listN_18 t_listWhat_18 t_best_18 t_f_18 t_g_18 t_listed_18 t_made_18 t_stored_18 t_table_18 t_twists_41) := hD
      refine lv_iconst (v := 0) hx hb dX11_pick_44 (by decide) ?_
      refine lv_istore (lv' := [(4, .int (0 : Int32)), (0, .ref h_t), (1, .int x1), (2, .int x2), (3, .int x3)]) hx hb dX11_pick_45 hl (by decide) rfl (fun ls hl => ?_)
      obtain ⟨I47, m47, hI47, hB47⟩ := h
      have L47 : ∀ (x3 : Int32) (t_thrown : Int32) (t_n : Int32) (t_listedMany : Int32) (t_listN : Int32) (t_listWhat : Int32) (t_best : Nat → Int32) (t_f : Nat → Int32) (t_g : Nat → Int32) (t_listed : Nat → Int32) (t_made : Nat → Int32) (t_stored : Nat → Int32) (t_twists : Nat → Int32) (I47 : Int32 → (Nat → Int32) → Prop) (m47 : Int32 → (Nat → Int32) → Nat), (∀ (x4 : Int32) (t_table : Nat → Int32), I47 x4 t_table → pX11_pick_47 K x3 t_thrown t_n t_listedMany t_listN t_listWhat t_best t_f t_g t_listed t_made t_stored t_twists x4 t_table (fun x4' t_table' => I47 x4' t_table' ∧ m47 x4' t_table' < m47 x4 t_table)) → ∀ (n : Nat) (x4 : Int32) (t_table : Nat → Int32) (H : Heap) (locs : List Loc) (ls : Array Slot), I47 x4 t_table → m47 x4 t_table < n → va_P G vwCl (w_X11_pick Y h_t B_t t_thrown t_n t_modulus t_rows t_strands t_letters t_listedMany t_listN t_listWhat t_best t_f t_g t_listed t_made t_stored t_table t_twists) H → va_D A (w_X11_pick Y h_t B_t t_thrown t_n t_modulus t_rows t_strands t_letters t_listedMany t_listN t_listWhat t_best t_f t_g t_listed t_made t_stored t_table t_twists) → va_S A s.heap H locs → lv_has ls 5 [(0, .ref h_t), (3, .int x3), (4, .int x4)] → W p l e R s m args below meth c H locs 0 0 Q (F0 m 47 ls []) := by
        intro x3 t_thrown t_n t_listedMany t_listN t_listWhat t_best t_f t_g t_listed t_made t_stored t_twists I47 m47 hB47 n
        induction n with
        | zero => intro x4 t_table H locs ls _ hm; exact absurd hm (Nat.not_lt_zero _)
        | succ n ih =>
          intro x4 t_table H locs ls hI hm hP hD hS hl
          obtain ⟨R47, h, rec47⟩ : ∃ R47 : Int32 → (Nat → Int32) → Prop, pX11_pick_47 K x3 t_thrown t_n t_listedMany t_listN t_listWhat t_best t_f t_g t_listed t_made t_stored t_twists x4 t_table R47 ∧ ∀ (x4 : Int32) (t_table : Nat → Int32) (H : Heap) (locs : List Loc) (ls : Array Slot), R47 x4 t_table → va_P G vwCl (w_X11_pick Y h_t B_t t_thrown t_n t_modulus t_rows t_strands t_letters t_listedMany t_listN t_listWhat t_best t_f t_g t_listed t_made t_stored t_table t_twists) H → va_D A (w_X11_pick Y h_t B_t t_thrown t_n t_modulus t_rows t_strands t_letters t_listedMany t_listN t_listWhat t_best t_f t_g t_listed t_made t_stored t_table t_twists) → va_S A s.heap H locs → lv_has ls 5 [(0, .ref h_t), (3, .int x3), (4, .int x4)] → W p l e R s m args below meth c H locs 0 0 Q (F0 m 47 ls []) := ⟨_, hB47 x4 t_table hI, fun x4 t_table H locs ls hh hP hD hS hl => ih x4 t_table H locs ls hh.1 (Nat.lt_of_lt_of_le hh.2 (Nat.le_of_lt_succ hm)) hP hD hS hl⟩
          refine lv_iload hx hb dX11_pick_47 (lv_at hl 2 rfl) ?_
          refine lv_bipush (v := 64) hx hb dX11_pick_49 (by decide) ?_
          obtain ⟨ht, hf⟩ := h
          refine lv_icmp_ge (tgt := 79) hx hb dX11_pick_51 (by decide) (fun c9 => ?_) (fun c9 => ?_)
          · have h := ht c9
            refine lv_iconst (v := 1) hx hb dX11_pick_79 (by decide) ?_
            obtain ⟨hz, h⟩ := h
            exact hret (1 : Int32) t_thrown t_n t_listedMany t_listN t_listWhat t_best t_f t_g t_listed t_made t_stored t_table t_twists H locs ls _ hP hD hS hz h dX11_pick_80
          · have h := hf c9
            refine lv_aload_n hx hb dX11_pick_54 rfl (lv_at hl 0 rfl) ?_
            refine va_get (D := G) (ci := 10) (v := .ref (B_t 2)) (C := RX11) (T := TX11) (N := 29) hx hb hts inX11 hown hK hP 0 rfl rfl 2 (by decide) hf13 (fun _ h9 => h9) rfl dX11_pick_55 ?_
            refine lv_iload hx hb dX11_pick_58 (lv_at hl 2 rfl) ?_
            refine lv_aload_n hx hb dX11_pick_60 rfl (lv_at hl 0 rfl) ?_
            refine va_get (D := G) (ci := 10) (v := .ref (B_t 25)) (C := RX11) (T := TX11) (N := 29) hx hb hts inX11 hown hK hP 0 rfl rfl 25 (by decide) hf80 (fun _ h9 => h9) rfl dX11_pick_61 ?_
            refine lv_bipush (v := 64) hx hb dX11_pick_64 (by decide) ?_
            refine lv_iload_n hx hb dX11_pick_66 rfl (lv_at hl 1 rfl) ?_
            refine lv_imul hx hb dX11_pick_67 ?_
            refine lv_iload hx hb dX11_pick_68 (lv_at hl 2 rfl) ?_
            refine lv_iadd hx hb dX11_pick_70 ?_
            obtain ⟨hin, h⟩ := h
            refine va_iald hx hb hK hP 4 0 rfl rfl hin dX11_pick_71 ?_
            obtain ⟨hin, h⟩ := h
            refine va_iast hx hb hK hP hD hS 7 0 rfl rfl hin dX11_pick_72 (fun H locs hP hD hS => ?_)
            have hP : va_P G vwCl (w_X11_pick Y h_t B_t t_thrown t_n t_modulus t_rows t_strands t_letters t_listedMany t_listN t_listWhat t_best t_f t_g t_listed t_made t_stored (upd t_table (Int32.toNatClampNeg x4) (t_listed (Int32.toNatClampNeg (((64 : Int32) * x3) + x4)))) t_twists) H := hP
            have hD : va_D A (w_X11_pick Y h_t B_t t_thrown t_n t_modulus t_rows t_strands t_letters t_listedMany t_listN t_listWhat t_best t_f t_g t_listed t_made t_stored (upd t_table (Int32.toNatClampNeg x4) (t_listed (Int32.toNatClampNeg (((64 : Int32) * x3) + x4)))) t_twists) := hD
            refine lv_iinc (v := (x4 + 1)) (lv' := [(4, .int (x4 + 1)), (0, .ref h_t), (3, .int x3)]) hx hb dX11_pick_73 hl (k := 2) rfl rfl (by decide) rfl (fun ls hl => ?_)
            refine lv_goto (tgt := 47) hx hb dX11_pick_76 (by decide) ?_
            exact rec47 (x4 + 1) (upd t_table (Int32.toNatClampNeg x4) (t_listed (Int32.toNatClampNeg (((64 : Int32) * x3) + x4)))) H locs ls h hP hD hS (lv_sub hl [1, 2, 0] rfl)
      exact L47 x3 (0 : Int32) t_n_41 t_listedMany_18 t_listN_18 t_listWhat_18 t_best_18 t_f_18 t_g_18 t_listed_18 t_made_18 t_stored_18 t_twists_41 I47 m47 hB47 _ (0 : Int32) t_table_18 H locs ls hI47 (Nat.lt_succ_self _) hP hD hS (lv_sub hl [1, 4, 0] rfl)
    · have h := hf c9
      refine lv_iconst (v := 0) hx hb dX11_pick_37 (by decide) ?_
      obtain ⟨hz, h⟩ := h
      exact hret (0 : Int32) (0 : Int32) t_n_18 t_listedMany_18 t_listN_18 t_listWhat_18 t_best_18 t_f_18 t_g_18 t_listed_18 t_made_18 t_stored_18 t_table_18 t_twists H locs ls _ hP hD hS hz h dX11_pick_38
  · have h := hf c9
    refine lv_iconst (v := 0) hx hb dX11_pick_13 (by decide) ?_
    obtain ⟨hz, h⟩ := h
    exact hret (0 : Int32) (0 : Int32) t_n t_listedMany t_listN t_listWhat t_best t_f t_g t_listed t_made t_stored t_table t_twists H locs ls _ hP hD hS hz h dX11_pick_14

set_option maxHeartbeats 20000000 in
set_option maxRecDepth 100000 in
theorem c_X11_pick (l : Launch) (G : va_G) (Y : Nat → ClassId) (tF sz : Nat) (h_t : Nat) (B_t : Nat → Nat) (t_thrown : Int32) (t_n : Int32) (t_modulus : Int32) (t_rows : Int32) (t_strands : Int32) (t_letters : Int32) (t_listedMany : Int32) (t_listN : Int32) (t_listWhat : Int32) (t_best : Nat → Int32) (t_f : Nat → Int32) (t_g : Nat → Int32) (t_listed : Nat → Int32) (t_made : Nat → Int32) (t_stored : Nat → Int32) (t_table : Nat → Int32) (t_twists : Nat → Int32) (x1 : Int32) (x2 : Int32) (x3 : Int32) {K : Int32 → Int32 → Int32 → Int32 → Int32 → Int32 → (Nat → Int32) → (Nat → Int32) → (Nat → Int32) → (Nat → Int32) → (Nat → Int32) → (Nat → Int32) → (Nat → Int32) → (Nat → Int32) → Prop} (h : pX11_pick t_thrown t_n t_listedMany t_listN t_listWhat t_best t_f t_g t_listed t_made t_stored t_table t_twists x1 x2 x3 K) : Met l yX11_pick wsX11_pick ({ frames := 21, cells := 0, slots := 0, locals := 463 }) (PcM G Y tF sz (w_X11_pick Y h_t B_t t_thrown t_n t_modulus t_rows t_strands t_letters t_listedMany t_listN t_listWhat t_best t_f t_g t_listed t_made t_stored t_table t_twists) [.ref h_t, .int x1, .int x2, .int x3]) (va_Qi (fun (r : Int32) (u : Int32 × Int32 × Int32 × Int32 × Int32 × (Nat → Int32) × (Nat → Int32) × (Nat → Int32) × (Nat → Int32) × (Nat → Int32) × (Nat → Int32) × (Nat → Int32) × (Nat → Int32)) => K r u.1 u.2.1 u.2.2.1 u.2.2.2.1 u.2.2.2.2.1 u.2.2.2.2.2.1 u.2.2.2.2.2.2.1 u.2.2.2.2.2.2.2.1 u.2.2.2.2.2.2.2.2.1 u.2.2.2.2.2.2.2.2.2.1 u.2.2.2.2.2.2.2.2.2.2.1 u.2.2.2.2.2.2.2.2.2.2.2.1 u.2.2.2.2.2.2.2.2.2.2.2.2) (fun u t => BM G Y (va_A (w_X11_pick Y h_t B_t t_thrown t_n t_modulus t_rows t_strands t_letters t_listedMany t_listN t_listWhat t_best t_f t_g t_listed t_made t_stored t_table t_twists) sz) (w_X11_pick Y h_t B_t u.1 u.2.1 t_modulus t_rows t_strands t_letters u.2.2.1 u.2.2.2.1 u.2.2.2.2.1 u.2.2.2.2.2.1 u.2.2.2.2.2.2.1 u.2.2.2.2.2.2.2.1 u.2.2.2.2.2.2.2.2.1 u.2.2.2.2.2.2.2.2.2.1 u.2.2.2.2.2.2.2.2.2.2.1 u.2.2.2.2.2.2.2.2.2.2.2.1 u.2.2.2.2.2.2.2.2.2.2.2.2) t) (va_A (w_X11_pick Y h_t B_t t_thrown t_n t_modulus t_rows t_strands t_letters t_listedMany t_listN t_listWhat t_best t_f t_g t_listed t_made t_stored t_table t_twists) sz)) 0 0 (va_A (w_X11_pick Y h_t B_t t_thrown t_n t_modulus t_rows t_strands t_letters t_listedMany t_listN t_listWhat t_best t_f t_g t_listed t_made t_stored t_table t_twists) sz) := by
  refine Met.ofW (cc := cX11_pick) (maxL := 5) (ret := (some .boolean)) (by decide +kernel) rfl ?_
  intro p e s m args below meth c s₁ B hml hv
  obtain ⟨rfl, hsz, hP, hK, hD0, hE⟩ := hv
  have hts := atoms_spec (ws := wsX11_pick) B.pre
  have hown : s.vm.findClass RX11 = some m.cls := findClass_of_methodNamed B.named
  have hlocks := B.notSynchronized
  subst hsz
  have hD := hD0.self (sz := s.heap.size)
  exact wk_X11_pick h_t B_t t_thrown t_n t_modulus t_rows t_strands t_letters t_listedMany t_listN t_listWhat t_best t_f t_g t_listed t_made t_stored t_table t_twists x1 x2 x3 B.exec B.bytes hml hown hts hK hE (fun q h => Or.inr h) (Nat.le_refl _) (Nat.le_refl _) (fun r t_thrown t_n t_listedMany t_listN t_listWhat t_best t_f t_g t_listed t_made t_stored t_table t_twists H locs ls pc hP hD hS hz hk hd => W.zret (v := r) B.exec B.bytes B.returns hz.n (fun t ht hW => ⟨⟨r, (t_thrown, t_n, t_listedMany, t_listN, t_listWhat, t_best, t_f, t_g, t_listed, t_made, t_stored, t_table, t_twists), rfl, hk, by rw [ht]; exact hP, va_K.moved hW.alike hK, hD⟩, hS.F ht⟩) hS.2.2 hd) hP hD h

abbrev w_X11_row (Y : Nat → ClassId) (h_t : Nat) (B_t : Nat → Nat) (t_thrown : Int32) (t_n : Int32) (t_modulus : Int32) (t_rows : Int32) (t_strands : Int32) (t_letters : Int32) (t_listedMany : Int32) (t_listN : Int32) (t_listWhat : Int32) (t_row : Nat → Int32) : va_W := [(h_t, .inr (10, [.int t_thrown, .int t_n, .ref (B_t 2), .int t_modulus, .ref (B_t 4), .ref (B_t 5), .ref (B_t 6), .ref (B_t 7), .ref (B_t 8), .ref (B_t 9), .ref (B_t 10), .int t_rows, .ref (B_t 12), .ref (B_t 13), .ref (B_t 14), .ref (B_t 15), .ref (B_t 16), .ref (B_t 17), .ref (B_t 18), .ref (B_t 19), .int t_strands, .int t_letters, .ref (B_t 22), .ref (B_t 23), .ref (B_t 24), .ref (B_t 25), .int t_listedMany, .int t_listN, .int t_listWhat])), ((B_t 12), .inl (Y 0, 8, .inl t_row))]

set_option maxHeartbeats 20000000 in
set_option maxRecDepth 100000 in
theorem wk_X11_row {p : Program} {l : Launch} {e : Env} {R : Room} {s : State} {m : MethodId} {args : Array Value} {below : List Frame} {meth : Method} {c : Code} {Q : State → Prop} {G : va_G} {Y : Nat → ClassId} {tF : Nat} {A : Nat → Prop} (h_t : Nat) (B_t : Nat → Nat) (t_thrown : Int32) (t_n : Int32) (t_modulus : Int32) (t_rows : Int32) (t_strands : Int32) (t_letters : Int32) (t_listedMany : Int32) (t_listN : Int32) (t_listWhat : Int32) (t_row : Nat → Int32) (x1 : Int32) {K : Int32 → Int32 → Prop} (hx : p.tables.exec = Jvm.exec) (hb : c.code = cX11_row) (hml : c.maxLocals = 2) (hown : s.vm.findClass RX11 = some m.cls) (hts : ∀ w ∈ wsX11_row, w.before args s = true) (hK : va_K G vwCl (tyL Y) s) (hE : Ev A tF s) (hA : ∀ q, s.heap.size ≤ q → A q) (hRf : 1 ≤ R.frames) (hRl : 25 ≤ R.locals) (hret : ∀ (r : Int32) (t_thrown : Int32) (H : Heap) (locs : List Loc) (ls : Array Slot) (pc : Nat), va_P G vwCl (w_X11_row Y h_t B_t t_thrown t_n t_modulus t_rows t_strands t_letters t_listedMany t_listN t_listWhat t_row) H → va_D A (w_X11_row Y h_t B_t t_thrown t_n t_modulus t_rows t_strands t_letters t_listedMany t_listN t_listWhat t_row) → va_S A s.heap H locs → K r t_thrown → decode cX11_row pc = .ok (.ireturn, 1) → W p l e R s m args below meth c H locs 0 0 Q (F0 m pc ls [.int r])) (hP : va_P G vwCl (w_X11_row Y h_t B_t t_thrown t_n t_modulus t_rows t_strands t_letters t_listedMany t_listN t_listWhat t_row) s.heap) (hD : va_D A (w_X11_row Y h_t B_t t_thrown t_n t_modulus t_rows t_strands t_letters t_listedMany t_listN t_listWhat t_row)) (h : pX11_row t_thrown t_rows t_row x1 K) : W p l e R s m args below meth c s.heap [] 0 0 Q (entryFrame m ([.ref h_t, .int x1] : List Value).toArray 2) := by
  have inX11 : ∀ w ∈ u_ws RX11 TX11 29, w ∈ wsX11_row := by decide +kernel
  have hf144 := hts (.fieldLink RX11 144 "RackBenchModel" "rows" "I") (by decide +kernel)
  have hf41 := hts (.fieldLink RX11 41 "RackBenchModel" "row" "[I") (by decide +kernel)
  have hf83 := hts (.fieldLink RX11 83 "RackBenchModel" "thrown" "I") (by decide +kernel)
  have hl := lv_entry ([.ref h_t, .int x1]) (n := 2) (Nat.le_of_ble_eq_true rfl)
  rw [lg_entry_eq]
  generalize (lg_sl ([.ref h_t, .int x1]) ++ List.replicate (2 - (lg_sl ([.ref h_t, .int x1])).length) Slot.unset).toArray = ls at hl ⊢
  have hl : lv_has ls 2 [(0, .ref h_t), (1, .int x1)] := hl
  generalize hH0 : s.heap = H at hP ⊢
  have hS : va_S A s.heap H [] := by rw [← hH0]; exact va_S.rf
  clear hH0
  generalize ([] : List Loc) = locs at hS ⊢
  refine lv_aload_n hx hb dX11_row_0 rfl (lv_at hl 0 rfl) ?_
  refine lv_iconst (v := 0) hx hb dX11_row_1 (by decide) ?_
  refine va_put (D := G) (ci := 10) (v := .int (0 : Int32)) (ty := .int) (C := RX11) (T := TX11) (N := 29) hx hb hts inX11 tyX11 tyX11_ok nmX11 hown hK hP hD hS 0 rfl rfl 0 (by decide) hf83 (fun _ h9 => h9) rfl (by decide +kernel) rfl rfl (Nat.le_of_ble_eq_true rfl) dX11_row_2 (fun H locs hP hD hS => ?_)
  have hP : va_P G vwCl (w_X11_row Y h_t B_t (0 : Int32) t_n t_modulus t_rows t_strands t_letters t_listedMany t_listN t_listWhat t_row) H := hP
  have hD : va_D A (w_X11_row Y h_t B_t (0 : Int32) t_n t_modulus t_rows t_strands t_letters t_listedMany t_listN t_listWhat t_row) := hD
  refine lv_iload_n hx hb dX11_row_5 rfl (lv_at hl 1 rfl) ?_
  refine lv_i2l hx hb dX11_row_6 rfl ?_
  refine lv_lconst (v := 0) hx hb dX11_row_7 (by decide) ?_
  refine lv_aload_n hx hb dX11_row_8 rfl (lv_at hl 0 rfl) ?_
  refine va_get (D := G) (ci := 10) (v := .int t_rows) (C := RX11) (T := TX11) (N := 29) hx hb hts inX11 hown hK hP 0 rfl rfl 11 (by decide) hf144 (fun _ h9 => h9) rfl dX11_row_9 ?_
  refine lv_iconst (v := 1) hx hb dX11_row_12 (by decide) ?_
  refine lv_isub hx hb dX11_row_13 ?_
  refine lv_i2l hx hb dX11_row_14 rfl ?_
  refine mc_iS ⟨hx, hb, hml, hown, hts⟩ hK hE hA hP hD hS (c_X11_in l G Y tF H.size (Int32.toInt64 x1) (0 : Int64) (Int32.toInt64 (t_rows - (1 : Int32))) h) (va_cwS 3 hts gX11_row_X11_in rfl rfl rfl (by decide +kernel) ⟨Nat.le_trans (by decide) hRf, Nat.le_trans (by decide) hRl⟩) (fun u => (w_X11_row Y h_t B_t (0 : Int32) t_n t_modulus t_rows t_strands t_letters t_listedMany t_listN t_listWhat t_row)) [] [0, 1] [0, 1] rfl rfl rfl rfl (by decide) (fun _ => rfl) rfl rfl hl.1 rfl (Nat.le_of_ble_eq_true rfl) dX11_row_15 (fun r15 u H locs h hP hD hS => ?_)
  try dsimp only at h
  have hP : va_P G vwCl (w_X11_row Y h_t B_t (0 : Int32) t_n t_modulus t_rows t_strands t_letters t_listedMany t_listN t_listWhat t_row) H := hP
  have hD : va_D A (w_X11_row Y h_t B_t (0 : Int32) t_n t_modulus t_rows t_strands t_letters t_listedMany t_listN t_listWhat t_row) := hD
  obtain ⟨ht, hf⟩ := h
  refine lv_if_eq (tgt := 30) hx hb dX11_row_18 (by decide) (fun c9 => ?_) (fun c9 => ?_)
  · have h := ht c9
    refine lv_aload_n hx hb dX11_row_30 rfl (lv_at hl 0 rfl) ?_
    refine mc_iV ⟨hx, hb, hml, hown, hts⟩ hK hE hA hP hD hS (c_X11_refuse l G Y tF H.size h_t B_t (0 : Int32) t_n t_modulus t_rows t_strands t_letters t_listedMany t_listN t_listWhat h) (cwV 0 hts gX11_row_X11_refuse rfl rfl rfl (by decide +kernel) ⟨Nat.le_trans (by decide) hRf, Nat.le_trans (by decide) hRl⟩) (fun u => (w_X11_row Y h_t B_t u t_n t_modulus t_rows t_strands t_letters t_listedMany t_listN t_listWhat t_row)) [0] [1] [1, 0] rfl rfl rfl rfl (by decide) (fun _ => rfl) rfl 0 10 rfl rfl rfl rfl hl.1 rfl (Nat.le_of_ble_eq_true rfl) dX11_row_31 (fun r31 u H locs h hP hD hS => ?_)
    obtain ⟨t_thrown_31, rfl⟩ : ∃ z, z = u := ⟨_, rfl⟩
    try dsimp only at h
    have hP : va_P G vwCl (w_X11_row Y h_t B_t t_thrown_31 t_n t_modulus t_rows t_strands t_letters t_listedMany t_listN t_listWhat t_row) H := hP
    have hD : va_D A (w_X11_row Y h_t B_t t_thrown_31 t_n t_modulus t_rows t_strands t_letters t_listedMany t_listN t_listWhat t_row) := hD
    exact hret r31 t_thrown_31 H locs ls _ hP hD hS h dX11_row_34
  · have h := hf c9
    refine lv_aload_n hx hb dX11_row_21 rfl (lv_at hl 0 rfl) ?_
    refine va_get (D := G) (ci := 10) (v := .ref (B_t 12)) (C := RX11) (T := TX11) (N := 29) hx hb hts inX11 hown hK hP 0 rfl rfl 12 (by decide) hf41 (fun _ h9 => h9) rfl dX11_row_22 ?_
    refine lv_iload_n hx hb dX11_row_25 rfl (lv_at hl 1 rfl) ?_
    obtain ⟨hin, h⟩ := h
    refine va_iald hx hb hK hP 1 0 rfl rfl hin dX11_row_26 ?_
    refine lv_goto (tgt := 34) hx hb dX11_row_27 (by decide) ?_
    exact hret (t_row (Int32.toNatClampNeg x1)) (0 : Int32) H locs ls _ hP hD hS h dX11_row_34

set_option maxHeartbeats 20000000 in
set_option maxRecDepth 100000 in
theorem c_X11_row (l : Launch) (G : va_G) (Y : Nat → ClassId) (tF sz : Nat) (h_t : Nat) (B_t : Nat → Nat) (t_thrown : Int32) (t_n : Int32) (t_modulus : Int32) (t_rows : Int32) (t_strands : Int32) (t_letters : Int32) (t_listedMany : Int32) (t_listN : Int32) (t_listWhat : Int32) (t_row : Nat → Int32) (x1 : Int32) {K : Int32 → Int32 → Prop} (h : pX11_row t_thrown t_rows t_row x1 K) : Met l yX11_row wsX11_row ({ frames := 1, cells := 0, slots := 0, locals := 25 }) (PcM G Y tF sz (w_X11_row Y h_t B_t t_thrown t_n t_modulus t_rows t_strands t_letters t_listedMany t_listN t_listWhat t_row) [.ref h_t, .int x1]) (va_Qi (fun (r : Int32) (u : Int32) => K r u) (fun u t => BM G Y (va_A (w_X11_row Y h_t B_t t_thrown t_n t_modulus t_rows t_strands t_letters t_listedMany t_listN t_listWhat t_row) sz) (w_X11_row Y h_t B_t u t_n t_modulus t_rows t_strands t_letters t_listedMany t_listN t_listWhat t_row) t) (va_A (w_X11_row Y h_t B_t t_thrown t_n t_modulus t_rows t_strands t_letters t_listedMany t_listN t_listWhat t_row) sz)) 0 0 (va_A (w_X11_row Y h_t B_t t_thrown t_n t_modulus t_rows t_strands t_letters t_listedMany t_listN t_listWhat t_row) sz) := by
  refine Met.ofW (cc := cX11_row) (maxL := 2) (ret := (some .int)) (by decide +kernel) rfl ?_
  intro p e s m args below meth c s₁ B hml hv
  obtain ⟨rfl, hsz, hP, hK, hD0, hE⟩ := hv
  have hts := atoms_spec (ws := wsX11_row) B.pre
  have hown : s.vm.findClass RX11 = some m.cls := findClass_of_methodNamed B.named
  have hlocks := B.notSynchronized
  subst hsz
  have hD := hD0.self (sz := s.heap.size)
  exact wk_X11_row h_t B_t t_thrown t_n t_modulus t_rows t_strands t_letters t_listedMany t_listN t_listWhat t_row x1 B.exec B.bytes hml hown hts hK hE (fun q h => Or.inr h) (Nat.le_refl _) (Nat.le_refl _) (fun r t_thrown H locs ls pc hP hD hS hk hd => W.iret (v := r) B.exec B.bytes B.returns (fun t ht hW => ⟨⟨r, t_thrown, rfl, hk, by rw [ht]; exact hP, va_K.moved hW.alike hK, hD⟩, hS.F ht⟩) hS.2.2 hd) hP hD h
