abbrev w_X11_isBest (Y : Nat → ClassId) (h_t : Nat) (B_t : Nat → Nat) (t_thrown : Int32) (t_n : Int32) (t_modulus : Int32) (t_rows : Int32) (t_strands : Int32) (t_letters : Int32) (t_listedMany : Int32) (t_listN : Int32) (t_listWhat : Int32) (t_best : Nat → Int32) (t_table : Nat → Int32) : va_W := [(h_t, .inr (10, [.int t_thrown, .int t_n, .ref (B_t 2), .int t_modulus, .ref (B_t 4), .ref (B_t 5), .ref (B_t 6), .ref (B_t 7), .ref (B_t 8), .ref (B_t 9), .ref (B_t 10), .int t_rows, .ref (B_t 12), .ref (B_t 13), .ref (B_t 14), .ref (B_t 15), .ref (B_t 16), .ref (B_t 17), .ref (B_t 18), .ref (B_t 19), .int t_strands, .int t_letters, .ref (B_t 22), .ref (B_t 23), .ref (B_t 24), .ref (B_t 25), .int t_listedMany, .int t_listN, .int t_listWhat])), ((B_t 16), .inl (Y 0, 64, .inl t_best)), ((B_t 2), .inl (Y 0, 64, .inl t_table))]

set_option maxHeartbeats 20000000 in
set_option maxRecDepth 100000 in
theorem wk_X11_isBest {p : Program} {l : Launch} {e : Env} {R : Room} {s : State} {m : MethodId} {args : Array Value} {below : List Frame} {meth : Method} {c : Code} {Q : State → Prop} {G : va_G} {Y : Nat → ClassId} {tF : Nat} {A : Nat → Prop} (h_t : Nat) (B_t : Nat → Nat) (t_thrown : Int32) (t_n : Int32) (t_modulus : Int32) (t_rows : Int32) (t_strands : Int32) (t_letters : Int32) (t_listedMany : Int32) (t_listN : Int32) (t_listWhat : Int32) (t_best : Nat → Int32) (t_table : Nat → Int32) {K : Int32 → Prop} (hx : p.tables.exec = Jvm.exec) (hb : c.code = cX11_isBest) (hml : c.maxLocals = 4) (hown : s.vm.findClass RX11 = some m.cls) (hts : ∀ w ∈ wsX11_isBest, w.before args s = true) (hK : va_K G vwCl (tyL Y) s) (hE : Ev A tF s) (hA : ∀ q, s.heap.size ≤ q → A q) (hRf : 1 ≤ R.frames) (hRl : 22 ≤ R.locals) (hret : ∀ (r : Int32)  (H : Heap) (locs : List Loc) (ls : Array Slot) (pc : Nat), va_P G vwCl (w_X11_isBest Y h_t B_t t_thrown t_n t_modulus t_rows t_strands t_letters t_listedMany t_listN t_listWhat t_best t_table) H → va_D A (w_X11_isBest Y h_t B_t t_thrown t_n t_modulus t_rows t_strands t_letters t_listedMany t_listN t_listWhat t_best t_table) → va_S A s.heap H locs → zb r → K r → decode cX11_isBest pc = .ok (.ireturn, 1) → W p l e R s m args below meth c H locs 0 0 Q (F0 m pc ls [.int r])) (hP : va_P G vwCl (w_X11_isBest Y h_t B_t t_thrown t_n t_modulus t_rows t_strands t_letters t_listedMany t_listN t_listWhat t_best t_table) s.heap) (hD : va_D A (w_X11_isBest Y h_t B_t t_thrown t_n t_modulus t_rows t_strands t_letters t_listedMany t_listN t_listWhat t_best t_table)) (h : pX11_isBest t_n t_best t_table K) : W p l e R s m args below meth c s.heap [] 0 0 Q (entryFrame m ([.ref h_t] : List Value).toArray 4) := by
  have inX11 : ∀ w ∈ u_ws RX11 TX11 29, w ∈ wsX11_isBest := by decide +kernel
  have hf55 := hts (.fieldLink RX11 55 "RackBenchModel" "best" "[I") (by decide +kernel)
  have hf9 := hts (.fieldLink RX11 9 "RackBenchModel" "n" "I") (by decide +kernel)
  have hl := lv_entry ([.ref h_t]) (n := 4) (Nat.le_of_ble_eq_true rfl)
  rw [lg_entry_eq]
  generalize (lg_sl ([.ref h_t]) ++ List.replicate (4 - (lg_sl ([.ref h_t])).length) Slot.unset).toArray = ls at hl ⊢
  have hl : lv_has ls 4 [(0, .ref h_t)] := hl
  generalize hH0 : s.heap = H at hP ⊢
  have hS : va_S A s.heap H [] := by rw [← hH0]; exact va_S.rf
  clear hH0
  generalize ([] : List Loc) = locs at hS ⊢
  refine lv_iconst (v := 1) hx hb dX11_isBest_0 (by decide) ?_
  refine lv_istore_n (lv' := [(1, .int (1 : Int32)), (0, .ref h_t)]) hx hb dX11_isBest_1 rfl hl (by decide) rfl (fun ls hl => ?_)
  refine lv_iconst (v := 0) hx hb dX11_isBest_2 (by decide) ?_
  refine lv_istore_n (lv' := [(2, .int (0 : Int32)), (1, .int (1 : Int32)), (0, .ref h_t)]) hx hb dX11_isBest_3 rfl hl (by decide) rfl (fun ls hl => ?_)
  obtain ⟨I4, m4, hI4, hB4⟩ := h
  have L4 : ∀  (I4 : Int32 → Int32 → Prop) (m4 : Int32 → Int32 → Nat), (∀ (x1 : Int32) (x2 : Int32), I4 x1 x2 → pX11_isBest_4 t_n t_best t_table K x1 x2 (fun x1' x2' => I4 x1' x2' ∧ m4 x1' x2' < m4 x1 x2)) → ∀ (n : Nat) (x1 : Int32) (x2 : Int32) (H : Heap) (locs : List Loc) (ls : Array Slot), I4 x1 x2 → m4 x1 x2 < n → va_P G vwCl (w_X11_isBest Y h_t B_t t_thrown t_n t_modulus t_rows t_strands t_letters t_listedMany t_listN t_listWhat t_best t_table) H → va_D A (w_X11_isBest Y h_t B_t t_thrown t_n t_modulus t_rows t_strands t_letters t_listedMany t_listN t_listWhat t_best t_table) → va_S A s.heap H locs → lv_has ls 4 [(0, .ref h_t), (1, .int x1), (2, .int x2)] → W p l e R s m args below meth c H locs 0 0 Q (F0 m 4 ls []) := by
    intro  I4 m4 hB4 n
    induction n with
    | zero => intro x1 x2 H locs ls _ hm; exact absurd hm (Nat.not_lt_zero _)
    | succ n ih =>
      intro x1 x2 H locs ls hI hm hP hD hS hl
      obtain ⟨R4, h, rec4⟩ : ∃ R4 : Int32 → Int32 → Prop, pX11_isBest_4 t_n t_best t_table K x1 x2 R4 ∧ ∀ (x1 : Int32) (x2 : Int32) (H : Heap) (locs : List Loc) (ls : Array Slot), R4 x1 x2 → va_P G vwCl (w_X11_isBest Y h_t B_t t_thrown t_n t_modulus t_rows t_strands t_letters t_listedMany t_listN t_listWhat t_best t_table) H → va_D A (w_X11_isBest Y h_t B_t t_thrown t_n t_modulus t_rows t_strands t_letters t_listedMany t_listN t_listWhat t_best t_table) → va_S A s.heap H locs → lv_has ls 4 [(0, .ref h_t), (1, .int x1), (2, .int x2)] → W p l e R s m args below meth c H locs 0 0 Q (F0 m 4 ls []) := ⟨_, hB4 x1 x2 hI, fun x1 x2 H locs ls hh hP hD hS hl => ih x1 x2 H locs ls hh.1 (Nat.lt_of_lt_of_le hh.2 (Nat.le_of_lt_succ hm)) hP hD hS hl⟩
      refine lv_iload_n hx hb dX11_isBest_4 rfl (lv_at hl 2 rfl) ?_
      refine lv_aload_n hx hb dX11_isBest_5 rfl (lv_at hl 0 rfl) ?_
      refine va_get (D := G) (ci := 10) (v := .int t_n) (C := RX11) (T := TX11) (N := 29) hx hb hts inX11 hown hK hP 0 rfl rfl 1 (by decide) hf9 (fun _ h9 => h9) rfl dX11_isBest_6 ?_
      obtain ⟨ht, hf⟩ := h
      refine lv_icmp_ge (tgt := 64) hx hb dX11_isBest_9 (by decide) (fun c9 => ?_) (fun c9 => ?_)
      · have h := ht c9
        refine lv_iload_n hx hb dX11_isBest_64 rfl (lv_at hl 1 rfl) ?_
        obtain ⟨hz, h⟩ := h
        exact hret x1  H locs ls _ hP hD hS hz h dX11_isBest_65
      · have h := hf c9
        refine lv_iconst (v := 0) hx hb dX11_isBest_12 (by decide) ?_
        refine lv_istore_n (lv' := [(3, .int (0 : Int32)), (0, .ref h_t), (1, .int x1), (2, .int x2)]) hx hb dX11_isBest_13 rfl hl (by decide) rfl (fun ls hl => ?_)
        obtain ⟨I14, m14, hI14, hB14⟩ := h
        have L14 : ∀ (x2 : Int32) (I14 : Int32 → Int32 → Prop) (m14 : Int32 → Int32 → Nat), (∀ (x1 : Int32) (x3 : Int32), I14 x1 x3 → pX11_isBest_14 t_n t_best t_table R4 K x2 x1 x3 (fun x1' x3' => I14 x1' x3' ∧ m14 x1' x3' < m14 x1 x3)) → ∀ (n : Nat) (x1 : Int32) (x3 : Int32) (H : Heap) (locs : List Loc) (ls : Array Slot), I14 x1 x3 → m14 x1 x3 < n → va_P G vwCl (w_X11_isBest Y h_t B_t t_thrown t_n t_modulus t_rows t_strands t_letters t_listedMany t_listN t_listWhat t_best t_table) H → va_D A (w_X11_isBest Y h_t B_t t_thrown t_n t_modulus t_rows t_strands t_letters t_listedMany t_listN t_listWhat t_best t_table) → va_S A s.heap H locs → lv_has ls 4 [(0, .ref h_t), (1, .int x1), (2, .int x2), (3, .int x3)] → W p l e R s m args below meth c H locs 0 0 Q (F0 m 14 ls []) := by
          intro x2 I14 m14 hB14 n
          induction n with
          | zero => intro x1 x3 H locs ls _ hm; exact absurd hm (Nat.not_lt_zero _)
          | succ n ih =>
            intro x1 x3 H locs ls hI hm hP hD hS hl
            obtain ⟨R14, h, rec14⟩ : ∃ R14 : Int32 → Int32 → Prop, pX11_isBest_14 t_n t_best t_table R4 K x2 x1 x3 R14 ∧ ∀ (x1 : Int32) (x3 : Int32) (H : Heap) (locs : List Loc) (ls : Array Slot), R14 x1 x3 → va_P G vwCl (w_X11_isBest Y h_t B_t t_thrown t_n t_modulus t_rows t_strands t_letters t_listedMany t_listN t_listWhat t_best t_table) H → va_D A (w_X11_isBest Y h_t B_t t_thrown t_n t_modulus t_rows t_strands t_letters t_listedMany t_listN t_listWhat t_best t_table) → va_S A s.heap H locs → lv_has ls 4 [(0, .ref h_t), (1, .int x1), (2, .int x2), (3, .int x3)] → W p l e R s m args below meth c H locs 0 0 Q (F0 m 14 ls []) := ⟨_, hB14 x1 x3 hI, fun x1 x3 H locs ls hh hP hD hS hl => ih x1 x3 H locs ls hh.1 (Nat.lt_of_lt_of_le hh.2 (Nat.le_of_lt_succ hm)) hP hD hS hl⟩
            have J50 : ∀ (x3 : Int32) (H : Heap) (locs : List Loc) (ls : Array Slot), pX11_isBest_50 t_n t_best t_table R4 R14 K x2 x3 → va_P G vwCl (w_X11_isBest Y h_t B_t t_thrown t_n t_modulus t_rows t_strands t_letters t_listedMany t_listN t_listWhat t_best t_table) H → va_D A (w_X11_isBest Y h_t B_t t_thrown t_n t_modulus t_rows t_strands t_letters t_listedMany t_listN t_listWhat t_best t_table) → va_S A s.heap H locs → lv_has ls 4 [(0, .ref h_t), (2, .int x2), (3, .int x3)] → W p l e R s m args below meth c H locs 0 0 Q (F0 m 50 ls []) := by
              intro x3 H locs ls h hP hD hS hl
              refine lv_iconst (v := 0) hx hb dX11_isBest_50 (by decide) ?_
              refine lv_istore_n (lv' := [(1, .int (0 : Int32)), (0, .ref h_t), (2, .int x2), (3, .int x3)]) hx hb dX11_isBest_51 rfl hl (by decide) rfl (fun ls hl => ?_)
              refine lv_iinc (v := (x3 + 1)) (lv' := [(3, .int (x3 + 1)), (1, .int (0 : Int32)), (0, .ref h_t), (2, .int x2)]) hx hb dX11_isBest_52 hl (k := 3) rfl rfl (by decide) rfl (fun ls hl => ?_)
              refine lv_goto (tgt := 14) hx hb dX11_isBest_55 (by decide) ?_
              exact rec14 (0 : Int32) (x3 + 1) H locs ls h hP hD hS (lv_sub hl [2, 1, 3, 0] rfl)
            refine lv_iload_n hx hb dX11_isBest_14 rfl (lv_at hl 3 rfl) ?_
            refine lv_aload_n hx hb dX11_isBest_15 rfl (lv_at hl 0 rfl) ?_
            refine va_get (D := G) (ci := 10) (v := .int t_n) (C := RX11) (T := TX11) (N := 29) hx hb hts inX11 hown hK hP 0 rfl rfl 1 (by decide) hf9 (fun _ h9 => h9) rfl dX11_isBest_16 ?_
            obtain ⟨ht, hf⟩ := h
            refine lv_icmp_ge (tgt := 58) hx hb dX11_isBest_19 (by decide) (fun c9 => ?_) (fun c9 => ?_)
            · have h := ht c9
              refine lv_iinc (v := (x2 + 1)) (lv' := [(2, .int (x2 + 1)), (0, .ref h_t), (1, .int x1), (3, .int x3)]) hx hb dX11_isBest_58 hl (k := 2) rfl rfl (by decide) rfl (fun ls hl => ?_)
              refine lv_goto (tgt := 4) hx hb dX11_isBest_61 (by decide) ?_
              exact rec4 x1 (x2 + 1) H locs ls h hP hD hS (lv_sub hl [1, 2, 0] rfl)
            · have h := hf c9
              refine lv_iload_n hx hb dX11_isBest_22 rfl (lv_at hl 1 rfl) ?_
              obtain ⟨ht, hf⟩ := h
              refine lv_if_eq (tgt := 50) hx hb dX11_isBest_23 (by decide) (fun c9 => ?_) (fun c9 => ?_)
              · have h := ht c9
                exact J50 x3 H locs ls h hP hD hS (lv_sub hl [0, 2, 3] rfl)
              · have h := hf c9
                refine lv_aload_n hx hb dX11_isBest_26 rfl (lv_at hl 0 rfl) ?_
                refine va_get (D := G) (ci := 10) (v := .ref (B_t 16)) (C := RX11) (T := TX11) (N := 29) hx hb hts inX11 hown hK hP 0 rfl rfl 16 (by decide) hf55 (fun _ h9 => h9) rfl dX11_isBest_27 ?_
                refine lv_bipush (v := 8) hx hb dX11_isBest_30 (by decide) ?_
                refine lv_iload_n hx hb dX11_isBest_32 rfl (lv_at hl 2 rfl) ?_
                refine lv_imul hx hb dX11_isBest_33 ?_
                refine lv_iload_n hx hb dX11_isBest_34 rfl (lv_at hl 3 rfl) ?_
                refine lv_iadd hx hb dX11_isBest_35 ?_
                obtain ⟨hin, h⟩ := h
                refine va_iald hx hb hK hP 1 0 rfl rfl hin dX11_isBest_36 ?_
                refine lv_aload_n hx hb dX11_isBest_37 rfl (lv_at hl 0 rfl) ?_
                refine lv_iload_n hx hb dX11_isBest_38 rfl (lv_at hl 2 rfl) ?_
                refine lv_iload_n hx hb dX11_isBest_39 rfl (lv_at hl 3 rfl) ?_
                refine mc_iV ⟨hx, hb, hml, hown, hts⟩ hK hE hA hP hD hS (c_X11_by l G Y tF H.size h_t B_t t_thrown t_n t_modulus t_rows t_strands t_letters t_listedMany t_listN t_listWhat t_table x2 x3 h) (cwV 2 hts gX11_isBest_X11_by rfl rfl rfl (by decide +kernel) ⟨Nat.le_trans (by decide) hRf, Nat.le_trans (by decide) hRl⟩) (fun u => (w_X11_isBest Y h_t B_t t_thrown t_n t_modulus t_rows t_strands t_letters t_listedMany t_listN t_listWhat t_best t_table)) [0, 2] [1] [1, 0, 2] rfl rfl rfl rfl (by decide) (fun _ => rfl) rfl 0 10 rfl rfl rfl rfl hl.1 rfl (Nat.le_of_ble_eq_true rfl) dX11_isBest_40 (fun r40 u H locs h hP hD hS => ?_)
                try dsimp only at h
                have hP : va_P G vwCl (w_X11_isBest Y h_t B_t t_thrown t_n t_modulus t_rows t_strands t_letters t_listedMany t_listN t_listWhat t_best t_table) H := hP
                have hD : va_D A (w_X11_isBest Y h_t B_t t_thrown t_n t_modulus t_rows t_strands t_letters t_listedMany t_listN t_listWhat t_best t_table) := hD
                obtain ⟨ht, hf⟩ := h
                refine lv_icmp_ne (tgt := 50) hx hb dX11_isBest_43 (by decide) (fun c9 => ?_) (fun c9 => ?_)
                · have h := ht c9
                  exact J50 x3 H locs ls h hP hD hS (lv_sub hl [0, 2, 3] rfl)
                · have h := hf c9
                  refine lv_iconst (v := 1) hx hb dX11_isBest_46 (by decide) ?_
                  refine lv_goto (tgt := 51) hx hb dX11_isBest_47 (by decide) ?_
                  refine lv_istore_n (lv' := [(1, .int (1 : Int32)), (0, .ref h_t), (2, .int x2), (3, .int x3)]) hx hb dX11_isBest_51 rfl hl (by decide) rfl (fun ls hl => ?_)
                  refine lv_iinc (v := (x3 + 1)) (lv' := [(3, .int (x3 + 1)), (1, .int (1 : Int32)), (0, .ref h_t), (2, .int x2)]) hx hb dX11_isBest_52 hl (k := 3) rfl rfl (by decide) rfl (fun ls hl => ?_)
                  refine lv_goto (tgt := 14) hx hb dX11_isBest_55 (by decide) ?_
                  exact rec14 (1 : Int32) (x3 + 1) H locs ls h hP hD hS (lv_sub hl [2, 1, 3, 0] rfl)
        exact L14 x2 I14 m14 hB14 _ x1 (0 : Int32) H locs ls hI14 (Nat.lt_succ_self _) hP hD hS (lv_sub hl [1, 2, 3, 0] rfl)
  exact L4  I4 m4 hB4 _ (1 : Int32) (0 : Int32) H locs ls hI4 (Nat.lt_succ_self _) hP hD hS (lv_sub hl [2, 1, 0] rfl)

set_option maxHeartbeats 20000000 in
set_option maxRecDepth 100000 in
theorem c_X11_isBest (l : Launch) (G : va_G) (Y : Nat → ClassId) (tF sz : Nat) (h_t : Nat) (B_t : Nat → Nat) (t_thrown : Int32) (t_n : Int32) (t_modulus : Int32) (t_rows : Int32) (t_strands : Int32) (t_letters : Int32) (t_listedMany : Int32) (t_listN : Int32) (t_listWhat : Int32) (t_best : Nat → Int32) (t_table : Nat → Int32) {K : Int32 → Prop} (h : pX11_isBest t_n t_best t_table K) : Met l yX11_isBest wsX11_isBest ({ frames := 1, cells := 0, slots := 0, locals := 22 }) (PcM G Y tF sz (w_X11_isBest Y h_t B_t t_thrown t_n t_modulus t_rows t_strands t_letters t_listedMany t_listN t_listWhat t_best t_table) [.ref h_t]) (va_Qi (fun (r : Int32) (u : Unit) => K r ) (fun u t => BM G Y (va_A (w_X11_isBest Y h_t B_t t_thrown t_n t_modulus t_rows t_strands t_letters t_listedMany t_listN t_listWhat t_best t_table) sz) (w_X11_isBest Y h_t B_t t_thrown t_n t_modulus t_rows t_strands t_letters t_listedMany t_listN t_listWhat t_best t_table) t) (va_A (w_X11_isBest Y h_t B_t t_thrown t_n t_modulus t_rows t_strands t_letters t_listedMany t_listN t_listWhat t_best t_table) sz)) 0 0 (va_A (w_X11_isBest Y h_t B_t t_thrown t_n t_modulus t_rows t_strands t_letters t_listedMany t_listN t_listWhat t_best t_table) sz) := by
  refine Met.ofW (cc := cX11_isBest) (maxL := 4) (ret := (some .boolean)) (by decide +kernel) rfl ?_
  intro p e s m args below meth c s₁ B hml hv
  obtain ⟨rfl, hsz, hP, hK, hD0, hE⟩ := hv
  have hts := atoms_spec (ws := wsX11_isBest) B.pre
  have hown : s.vm.findClass RX11 = some m.cls := findClass_of_methodNamed B.named
  have hlocks := B.notSynchronized
  subst hsz
  have hD := hD0.self (sz := s.heap.size)
  exact wk_X11_isBest h_t B_t t_thrown t_n t_modulus t_rows t_strands t_letters t_listedMany t_listN t_listWhat t_best t_table B.exec B.bytes hml hown hts hK hE (fun q h => Or.inr h) (Nat.le_refl _) (Nat.le_refl _) (fun r  H locs ls pc hP hD hS hz hk hd => W.zret (v := r) B.exec B.bytes B.returns hz.n (fun t ht hW => ⟨⟨r, (), rfl, hk, by rw [ht]; exact hP, va_K.moved hW.alike hK, hD⟩, hS.F ht⟩) hS.2.2 hd) hP hD h

abbrev w_X11_least (Y : Nat → ClassId) (h_t : Nat) (B_t : Nat → Nat) (t_thrown : Int32) (t_n : Int32) (t_modulus : Int32) (t_rows : Int32) (t_strands : Int32) (t_letters : Int32) (t_listedMany : Int32) (t_listN : Int32) (t_listWhat : Int32) (t_best : Nat → Int32) (t_f : Nat → Int32) (t_made : Nat → Int32) (t_table : Nat → Int32) (t_twists : Nat → Int32) : va_W := [(h_t, .inr (10, [.int t_thrown, .int t_n, .ref (B_t 2), .int t_modulus, .ref (B_t 4), .ref (B_t 5), .ref (B_t 6), .ref (B_t 7), .ref (B_t 8), .ref (B_t 9), .ref (B_t 10), .int t_rows, .ref (B_t 12), .ref (B_t 13), .ref (B_t 14), .ref (B_t 15), .ref (B_t 16), .ref (B_t 17), .ref (B_t 18), .ref (B_t 19), .int t_strands, .int t_letters, .ref (B_t 22), .ref (B_t 23), .ref (B_t 24), .ref (B_t 25), .int t_listedMany, .int t_listN, .int t_listWhat])), ((B_t 16), .inl (Y 0, 64, .inl t_best)), ((B_t 5), .inl (Y 0, 8, .inl t_f)), ((B_t 17), .inl (Y 0, 64, .inl t_made)), ((B_t 2), .inl (Y 0, 64, .inl t_table)), ((B_t 4), .inl (Y 0, 64, .inl t_twists))]

set_option maxHeartbeats 20000000 in
set_option maxRecDepth 100000 in
theorem wk_X11_least {p : Program} {l : Launch} {e : Env} {R : Room} {s : State} {m : MethodId} {args : Array Value} {below : List Frame} {meth : Method} {c : Code} {Q : State → Prop} {G : va_G} {Y : Nat → ClassId} {tF : Nat} {A : Nat → Prop} (h_t : Nat) (B_t : Nat → Nat) (t_thrown : Int32) (t_n : Int32) (t_modulus : Int32) (t_rows : Int32) (t_strands : Int32) (t_letters : Int32) (t_listedMany : Int32) (t_listN : Int32) (t_listWhat : Int32) (t_best : Nat → Int32) (t_f : Nat → Int32) (t_made : Nat → Int32) (t_table : Nat → Int32) (t_twists : Nat → Int32) {K : Int32 → Int32 → (Nat → Int32) → (Nat → Int32) → (Nat → Int32) → (Nat → Int32) → (Nat → Int32) → Prop} (hx : p.tables.exec = Jvm.exec) (hb : c.code = cX11_least) (hml : c.maxLocals = 2) (hown : s.vm.findClass RX11 = some m.cls) (hts : ∀ w ∈ wsX11_least, w.before args s = true) (hK : va_K G vwCl (tyL Y) s) (hE : Ev A tF s) (hA : ∀ q, s.heap.size ≤ q → A q) (hRf : 13 ≤ R.frames) (hRl : 271 ≤ R.locals) (hret : ∀ (r : Int32) (t_thrown : Int32) (t_best : Nat → Int32) (t_f : Nat → Int32) (t_made : Nat → Int32) (t_table : Nat → Int32) (t_twists : Nat → Int32) (H : Heap) (locs : List Loc) (ls : Array Slot) (pc : Nat), va_P G vwCl (w_X11_least Y h_t B_t t_thrown t_n t_modulus t_rows t_strands t_letters t_listedMany t_listN t_listWhat t_best t_f t_made t_table t_twists) H → va_D A (w_X11_least Y h_t B_t t_thrown t_n t_modulus t_rows t_strands t_letters t_listedMany t_listN t_listWhat t_best t_f t_made t_table t_twists) → va_S A s.heap H locs → zb r → K r t_thrown t_best t_f t_made t_table t_twists → decode cX11_least pc = .ok (.ireturn, 1) → W p l e R s m args below meth c H locs 0 0 Q (F0 m pc ls [.int r])) (hP : va_P G vwCl (w_X11_least Y h_t B_t t_thrown t_n t_modulus t_rows t_strands t_letters t_listedMany t_listN t_listWhat t_best t_f t_made t_table t_twists) s.heap) (hD : va_D A (w_X11_least Y h_t B_t t_thrown t_n t_modulus t_rows t_strands t_letters t_listedMany t_listN t_listWhat t_best t_f t_made t_table t_twists)) (h : pX11_least t_thrown t_n t_best t_f t_made t_table t_twists K) : W p l e R s m args below meth c s.heap [] 0 0 Q (entryFrame m ([.ref h_t] : List Value).toArray 2) := by
  have inX11 : ∀ w ∈ u_ws RX11 TX11 29, w ∈ wsX11_least := by decide +kernel
  have hf13 := hts (.fieldLink RX11 13 "RackBenchModel" "table" "[I") (by decide +kernel)
  have hf55 := hts (.fieldLink RX11 55 "RackBenchModel" "best" "[I") (by decide +kernel)
  have hf83 := hts (.fieldLink RX11 83 "RackBenchModel" "thrown" "I") (by decide +kernel)
  have hl := lv_entry ([.ref h_t]) (n := 2) (Nat.le_of_ble_eq_true rfl)
  rw [lg_entry_eq]
  generalize (lg_sl ([.ref h_t]) ++ List.replicate (2 - (lg_sl ([.ref h_t])).length) Slot.unset).toArray = ls at hl ⊢
  have hl : lv_has ls 2 [(0, .ref h_t)] := hl
  generalize hH0 : s.heap = H at hP ⊢
  have hS : va_S A s.heap H [] := by rw [← hH0]; exact va_S.rf
  clear hH0
  generalize ([] : List Loc) = locs at hS ⊢
  refine lv_aload_n hx hb dX11_least_0 rfl (lv_at hl 0 rfl) ?_
  refine lv_iconst (v := 0) hx hb dX11_least_1 (by decide) ?_
  refine va_put (D := G) (ci := 10) (v := .int (0 : Int32)) (ty := .int) (C := RX11) (T := TX11) (N := 29) hx hb hts inX11 tyX11 tyX11_ok nmX11 hown hK hP hD hS 0 rfl rfl 0 (by decide) hf83 (fun _ h9 => h9) rfl (by decide +kernel) rfl rfl (Nat.le_of_ble_eq_true rfl) dX11_least_2 (fun H locs hP hD hS => ?_)
  have hP : va_P G vwCl (w_X11_least Y h_t B_t (0 : Int32) t_n t_modulus t_rows t_strands t_letters t_listedMany t_listN t_listWhat t_best t_f t_made t_table t_twists) H := hP
  have hD : va_D A (w_X11_least Y h_t B_t (0 : Int32) t_n t_modulus t_rows t_strands t_letters t_listedMany t_listN t_listWhat t_best t_f t_made t_table t_twists) := hD
  refine lv_aload_n hx hb dX11_least_5 rfl (lv_at hl 0 rfl) ?_
  refine mc_vV ⟨hx, hb, hml, hown, hts⟩ hK hE hA hP hD hS (c_X11_leastOf l G Y tF H.size h_t B_t (0 : Int32) t_n t_modulus t_rows t_strands t_letters t_listedMany t_listN t_listWhat t_best t_f t_made t_table h) (cwV 0 hts gX11_least_X11_leastOf rfl rfl rfl (by decide +kernel) ⟨Nat.le_trans (by decide) hRf, Nat.le_trans (by decide) hRl⟩) (fun u => (w_X11_least Y h_t B_t (0 : Int32) t_n t_modulus t_rows t_strands t_letters t_listedMany t_listN t_listWhat u.1 u.2.1 u.2.2 t_table t_twists)) [0, 1, 2, 3, 4] [5] [1, 2, 3, 4, 5, 0] rfl rfl rfl rfl (by decide) (fun _ => rfl) rfl 0 10 rfl rfl rfl rfl hl.1 rfl (Nat.le_of_ble_eq_true rfl) dX11_least_6 (fun u H locs h hP hD hS => ?_)
  obtain ⟨t_best_6, t_f_6, t_made_6⟩ := u
  try dsimp only at h
  have hP : va_P G vwCl (w_X11_least Y h_t B_t (0 : Int32) t_n t_modulus t_rows t_strands t_letters t_listedMany t_listN t_listWhat t_best_6 t_f_6 t_made_6 t_table t_twists) H := hP
  have hD : va_D A (w_X11_least Y h_t B_t (0 : Int32) t_n t_modulus t_rows t_strands t_letters t_listedMany t_listN t_listWhat t_best_6 t_f_6 t_made_6 t_table t_twists) := hD
  refine lv_aload_n hx hb dX11_least_9 rfl (lv_at hl 0 rfl) ?_
  refine mc_vV ⟨hx, hb, hml, hown, hts⟩ hK hE hA hP hD hS (c_X11_straight l G Y tF H.size h_t B_t (0 : Int32) t_n t_modulus t_rows t_strands t_letters t_listedMany t_listN t_listWhat t_twists h) (cwV 0 hts gX11_least_X11_straight rfl rfl rfl (by decide +kernel) ⟨Nat.le_trans (by decide) hRf, Nat.le_trans (by decide) hRl⟩) (fun u => (w_X11_least Y h_t B_t (0 : Int32) t_n t_modulus t_rows t_strands t_letters t_listedMany t_listN t_listWhat t_best_6 t_f_6 t_made_6 t_table u)) [0, 5] [1, 2, 3, 4] [4, 0, 1, 2, 3, 5] rfl rfl rfl rfl (by decide) (fun _ => rfl) rfl 0 10 rfl rfl rfl rfl hl.1 rfl (Nat.le_of_ble_eq_true rfl) dX11_least_10 (fun u H locs h hP hD hS => ?_)
  obtain ⟨t_twists_10, rfl⟩ : ∃ z, z = u := ⟨_, rfl⟩
  try dsimp only at h
  have hP : va_P G vwCl (w_X11_least Y h_t B_t (0 : Int32) t_n t_modulus t_rows t_strands t_letters t_listedMany t_listN t_listWhat t_best_6 t_f_6 t_made_6 t_table t_twists_10) H := hP
  have hD : va_D A (w_X11_least Y h_t B_t (0 : Int32) t_n t_modulus t_rows t_strands t_letters t_listedMany t_listN t_listWhat t_best_6 t_f_6 t_made_6 t_table t_twists_10) := hD
  refine lv_aload_n hx hb dX11_least_13 rfl (lv_at hl 0 rfl) ?_
  refine mc_iV ⟨hx, hb, hml, hown, hts⟩ hK hE hA hP hD hS (c_X11_isBest l G Y tF H.size h_t B_t (0 : Int32) t_n t_modulus t_rows t_strands t_letters t_listedMany t_listN t_listWhat t_best_6 t_table h) (cwV 0 hts gX11_least_X11_isBest rfl rfl rfl (by decide +kernel) ⟨Nat.le_trans (by decide) hRf, Nat.le_trans (by decide) hRl⟩) (fun u => (w_X11_least Y h_t B_t (0 : Int32) t_n t_modulus t_rows t_strands t_letters t_listedMany t_listN t_listWhat t_best_6 t_f_6 t_made_6 t_table t_twists_10)) [0, 1, 4] [2, 3, 5] [3, 4, 0, 1, 5, 2] rfl rfl rfl rfl (by decide) (fun _ => rfl) rfl 0 10 rfl rfl rfl rfl hl.1 rfl (Nat.le_of_ble_eq_true rfl) dX11_least_14 (fun r14 u H locs h hP hD hS => ?_)
  try dsimp only at h
  have hP : va_P G vwCl (w_X11_least Y h_t B_t (0 : Int32) t_n t_modulus t_rows t_strands t_letters t_listedMany t_listN t_listWhat t_best_6 t_f_6 t_made_6 t_table t_twists_10) H := hP
  have hD : va_D A (w_X11_least Y h_t B_t (0 : Int32) t_n t_modulus t_rows t_strands t_letters t_listedMany t_listN t_listWhat t_best_6 t_f_6 t_made_6 t_table t_twists_10) := hD
  obtain ⟨ht, hf⟩ := h
  refine lv_if_eq (tgt := 22) hx hb dX11_least_17 (by decide) (fun c9 => ?_) (fun c9 => ?_)
  · have h := ht c9
    refine lv_iconst (v := 0) hx hb dX11_least_22 (by decide) ?_
    refine lv_istore_n (lv' := [(1, .int (0 : Int32)), (0, .ref h_t)]) hx hb dX11_least_23 rfl hl (by decide) rfl (fun ls hl => ?_)
    obtain ⟨I24, m24, hI24, hB24⟩ := h
    have L24 : ∀ (t_thrown : Int32) (t_best : Nat → Int32) (t_f : Nat → Int32) (t_made : Nat → Int32) (t_twists : Nat → Int32) (I24 : Int32 → (Nat → Int32) → Prop) (m24 : Int32 → (Nat → Int32) → Nat), (∀ (x1 : Int32) (t_table : Nat → Int32), I24 x1 t_table → pX11_least_24 t_n K t_thrown t_best t_f t_made t_twists x1 t_table (fun x1' t_table' => I24 x1' t_table' ∧ m24 x1' t_table' < m24 x1 t_table)) → ∀ (n : Nat) (x1 : Int32) (t_table : Nat → Int32) (H : Heap) (locs : List Loc) (ls : Array Slot), I24 x1 t_table → m24 x1 t_table < n → va_P G vwCl (w_X11_least Y h_t B_t t_thrown t_n t_modulus t_rows t_strands t_letters t_listedMany t_listN t_listWhat t_best t_f t_made t_table t_twists) H → va_D A (w_X11_least Y h_t B_t t_thrown t_n t_modulus t_rows t_strands t_letters t_listedMany t_listN t_listWhat t_best t_f t_made t_table t_twists) → va_S A s.heap H locs → lv_has ls 2 [(0, .ref h_t), (1, .int x1)] → W p l e R s m args below meth c H locs 0 0 Q (F0 m 24 ls []) := by
      intro t_thrown t_best t_f t_made t_twists I24 m24 hB24 n
      induction n with
      | zero => intro x1 t_table H locs ls _ hm; exact absurd hm (Nat.not_lt_zero _)
      | succ n ih =>
        intro x1 t_table H locs ls hI hm hP hD hS hl
        obtain ⟨R24, h, rec24⟩ : ∃ R24 : Int32 → (Nat → Int32) → Prop, pX11_least_24 t_n K t_thrown t_best t_f t_made t_twists x1 t_table R24 ∧ ∀ (x1 : Int32) (t_table : Nat → Int32) (H : Heap) (locs : List Loc) (ls : Array Slot), R24 x1 t_table → va_P G vwCl (w_X11_least Y h_t B_t t_thrown t_n t_modulus t_rows t_strands t_letters t_listedMany t_listN t_listWhat t_best t_f t_made t_table t_twists) H → va_D A (w_X11_least Y h_t B_t t_thrown t_n t_modulus t_rows t_strands t_letters t_listedMany t_listN t_listWhat t_best t_f t_made t_table t_twists) → va_S A s.heap H locs → lv_has ls 2 [(0, .ref h_t), (1, .int x1)] → W p l e R s m args below meth c H locs 0 0 Q (F0 m 24 ls []) := ⟨_, hB24 x1 t_table hI, fun x1 t_table H locs ls hh hP hD hS hl => ih x1 t_table H locs ls hh.1 (Nat.lt_of_lt_of_le hh.2 (Nat.le_of_lt_succ hm)) hP hD hS hl⟩
        refine lv_iload_n hx hb dX11_least_24 rfl (lv_at hl 1 rfl) ?_
        refine lv_bipush (v := 64) hx hb dX11_least_25 (by decide) ?_
        obtain ⟨ht, hf⟩ := h
        refine lv_icmp_ge (tgt := 48) hx hb dX11_least_27 (by decide) (fun c9 => ?_) (fun c9 => ?_)
        · have h := ht c9
          refine lv_iconst (v := 1) hx hb dX11_least_48 (by decide) ?_
          obtain ⟨hz, h⟩ := h
          exact hret (1 : Int32) t_thrown t_best t_f t_made t_table t_twists H locs ls _ hP hD hS hz h dX11_least_49
        · have h := hf c9
          refine lv_aload_n hx hb dX11_least_30 rfl (lv_at hl 0 rfl) ?_
          refine va_get (D := G) (ci := 10) (v := .ref (B_t 2)) (C := RX11) (T := TX11) (N := 29) hx hb hts inX11 hown hK hP 0 rfl rfl 2 (by decide) hf13 (fun _ h9 => h9) rfl dX11_least_31 ?_
          refine lv_iload_n hx hb dX11_least_34 rfl (lv_at hl 1 rfl) ?_
          refine lv_aload_n hx hb dX11_least_35 rfl (lv_at hl 0 rfl) ?_
          refine va_get (D := G) (ci := 10) (v := .ref (B_t 16)) (C := RX11) (T := TX11) (N := 29) hx hb hts inX11 hown hK hP 0 rfl rfl 16 (by decide) hf55 (fun _ h9 => h9) rfl dX11_least_36 ?_
          refine lv_iload_n hx hb dX11_least_39 rfl (lv_at hl 1 rfl) ?_
          obtain ⟨hin, h⟩ := h
          refine va_iald hx hb hK hP 1 0 rfl rfl hin dX11_least_40 ?_
          obtain ⟨hin, h⟩ := h
          refine va_iast hx hb hK hP hD hS 4 0 rfl rfl hin dX11_least_41 (fun H locs hP hD hS => ?_)
          have hP : va_P G vwCl (w_X11_least Y h_t B_t t_thrown t_n t_modulus t_rows t_strands t_letters t_listedMany t_listN t_listWhat t_best t_f t_made (upd t_table (Int32.toNatClampNeg x1) (t_best (Int32.toNatClampNeg x1))) t_twists) H := hP
          have hD : va_D A (w_X11_least Y h_t B_t t_thrown t_n t_modulus t_rows t_strands t_letters t_listedMany t_listN t_listWhat t_best t_f t_made (upd t_table (Int32.toNatClampNeg x1) (t_best (Int32.toNatClampNeg x1))) t_twists) := hD
          refine lv_iinc (v := (x1 + 1)) (lv' := [(1, .int (x1 + 1)), (0, .ref h_t)]) hx hb dX11_least_42 hl (k := 1) rfl rfl (by decide) rfl (fun ls hl => ?_)
          refine lv_goto (tgt := 24) hx hb dX11_least_45 (by decide) ?_
          exact rec24 (x1 + 1) (upd t_table (Int32.toNatClampNeg x1) (t_best (Int32.toNatClampNeg x1))) H locs ls h hP hD hS (lv_sub hl [1, 0] rfl)
    exact L24 (0 : Int32) t_best_6 t_f_6 t_made_6 t_twists_10 I24 m24 hB24 _ (0 : Int32) t_table H locs ls hI24 (Nat.lt_succ_self _) hP hD hS (lv_sub hl [1, 0] rfl)
  · have h := hf c9
    refine lv_iconst (v := 0) hx hb dX11_least_20 (by decide) ?_
    obtain ⟨hz, h⟩ := h
    exact hret (0 : Int32) (0 : Int32) t_best_6 t_f_6 t_made_6 t_table t_twists_10 H locs ls _ hP hD hS hz h dX11_least_21

set_option maxHeartbeats 20000000 in
set_option maxRecDepth 100000 in
theorem c_X11_least (l : Launch) (G : va_G) (Y : Nat → ClassId) (tF sz : Nat) (h_t : Nat) (B_t : Nat → Nat) (t_thrown : Int32) (t_n : Int32) (t_modulus : Int32) (t_rows : Int32) (t_strands : Int32) (t_letters : Int32) (t_listedMany : Int32) (t_listN : Int32) (t_listWhat : Int32) (t_best : Nat → Int32) (t_f : Nat → Int32) (t_made : Nat → Int32) (t_table : Nat → Int32) (t_twists : Nat → Int32) {K : Int32 → Int32 → (Nat → Int32) → (Nat → Int32) → (Nat → Int32) → (Nat → Int32) → (Nat → Int32) → Prop} (h : pX11_least t_thrown t_n t_best t_f t_made t_table t_twists K) : Met l yX11_least wsX11_least ({ frames := 13, cells := 0, slots := 0, locals := 271 }) (PcM G Y tF sz (w_X11_least Y h_t B_t t_thrown t_n t_modulus t_rows t_strands t_letters t_listedMany t_listN t_listWhat t_best t_f t_made t_table t_twists) [.ref h_t]) (va_Qi (fun (r : Int32) (u : Int32 × (Nat → Int32) × (Nat → Int32) × (Nat → Int32) × (Nat → Int32) × (Nat → Int32)) => K r u.1 u.2.1 u.2.2.1 u.2.2.2.1 u.2.2.2.2.1 u.2.2.2.2.2) (fun u t => BM G Y (va_A (w_X11_least Y h_t B_t t_thrown t_n t_modulus t_rows t_strands t_letters t_listedMany t_listN t_listWhat t_best t_f t_made t_table t_twists) sz) (w_X11_least Y h_t B_t u.1 t_n t_modulus t_rows t_strands t_letters t_listedMany t_listN t_listWhat u.2.1 u.2.2.1 u.2.2.2.1 u.2.2.2.2.1 u.2.2.2.2.2) t) (va_A (w_X11_least Y h_t B_t t_thrown t_n t_modulus t_rows t_strands t_letters t_listedMany t_listN t_listWhat t_best t_f t_made t_table t_twists) sz)) 0 0 (va_A (w_X11_least Y h_t B_t t_thrown t_n t_modulus t_rows t_strands t_letters t_listedMany t_listN t_listWhat t_best t_f t_made t_table t_twists) sz) := by
  refine Met.ofW (cc := cX11_least) (maxL := 2) (ret := (some .boolean)) (by decide +kernel) rfl ?_
  intro p e s m args below meth c s₁ B hml hv
  obtain ⟨rfl, hsz, hP, hK, hD0, hE⟩ := hv
  have hts := atoms_spec (ws := wsX11_least) B.pre
  have hown : s.vm.findClass RX11 = some m.cls := findClass_of_methodNamed B.named
  have hlocks := B.notSynchronized
  subst hsz
  have hD := hD0.self (sz := s.heap.size)
  exact wk_X11_least h_t B_t t_thrown t_n t_modulus t_rows t_strands t_letters t_listedMany t_listN t_listWhat t_best t_f t_made t_table t_twists B.exec B.bytes hml hown hts hK hE (fun q h => Or.inr h) (Nat.le_refl _) (Nat.le_refl _) (fun r t_thrown t_best t_f t_made t_table t_twists H locs ls pc hP hD hS hz hk hd => W.zret (v := r) B.exec B.bytes B.returns hz.n (fun t ht hW => ⟨⟨r, (t_thrown, t_best, t_f, t_made, t_table, t_twists), rfl, hk, by rw [ht]; exact hP, va_K.moved hW.alike hK, hD⟩, hS.F ht⟩) hS.2.2 hd) hP hD h

abbrev w_X11_like (Y : Nat → ClassId) (h_t : Nat) (B_t : Nat → Nat) (t_thrown : Int32) (t_n : Int32) (t_modulus : Int32) (t_rows : Int32) (t_strands : Int32) (t_letters : Int32) (t_listedMany : Int32) (t_listN : Int32) (t_listWhat : Int32) (t_f : Nat → Int32) (t_kept : Nat → Int32) (t_keptMany : Nat → Int32) (t_table : Nat → Int32) : va_W := [(h_t, .inr (10, [.int t_thrown, .int t_n, .ref (B_t 2), .int t_modulus, .ref (B_t 4), .ref (B_t 5), .ref (B_t 6), .ref (B_t 7), .ref (B_t 8), .ref (B_t 9), .ref (B_t 10), .int t_rows, .ref (B_t 12), .ref (B_t 13), .ref (B_t 14), .ref (B_t 15), .ref (B_t 16), .ref (B_t 17), .ref (B_t 18), .ref (B_t 19), .int t_strands, .int t_letters, .ref (B_t 22), .ref (B_t 23), .ref (B_t 24), .ref (B_t 25), .int t_listedMany, .int t_listN, .int t_listWhat])), ((B_t 5), .inl (Y 0, 8, .inl t_f)), ((B_t 10), .inl (Y 0, 256, .inl t_kept)), ((B_t 9), .inl (Y 0, 4, .inl t_keptMany)), ((B_t 2), .inl (Y 0, 64, .inl t_table))]

set_option maxHeartbeats 20000000 in
set_option maxRecDepth 100000 in
theorem wk_X11_like {p : Program} {l : Launch} {e : Env} {R : Room} {s : State} {m : MethodId} {args : Array Value} {below : List Frame} {meth : Method} {c : Code} {Q : State → Prop} {G : va_G} {Y : Nat → ClassId} {tF : Nat} {A : Nat → Prop} (h_t : Nat) (B_t : Nat → Nat) (t_thrown : Int32) (t_n : Int32) (t_modulus : Int32) (t_rows : Int32) (t_strands : Int32) (t_letters : Int32) (t_listedMany : Int32) (t_listN : Int32) (t_listWhat : Int32) (t_f : Nat → Int32) (t_kept : Nat → Int32) (t_keptMany : Nat → Int32) (t_table : Nat → Int32) (x1 : Int32) {K : Int32 → Int32 → (Nat → Int32) → Prop} (hx : p.tables.exec = Jvm.exec) (hb : c.code = cX11_like) (hml : c.maxLocals = 3) (hown : s.vm.findClass RX11 = some m.cls) (hts : ∀ w ∈ wsX11_like, w.before args s = true) (hK : va_K G vwCl (tyL Y) s) (hE : Ev A tF s) (hA : ∀ q, s.heap.size ≤ q → A q) (hRf : 12 ≤ R.frames) (hRl : 248 ≤ R.locals) (hret : ∀ (r : Int32) (t_thrown : Int32) (t_f : Nat → Int32) (H : Heap) (locs : List Loc) (ls : Array Slot) (pc : Nat), va_P G vwCl (w_X11_like Y h_t B_t t_thrown t_n t_modulus t_rows t_strands t_letters t_listedMany t_listN t_listWhat t_f t_kept t_keptMany t_table) H → va_D A (w_X11_like Y h_t B_t t_thrown t_n t_modulus t_rows t_strands t_letters t_listedMany t_listN t_listWhat t_f t_kept t_keptMany t_table) → va_S A s.heap H locs → K r t_thrown t_f → decode cX11_like pc = .ok (.ireturn, 1) → W p l e R s m args below meth c H locs 0 0 Q (F0 m pc ls [.int r])) (hP : va_P G vwCl (w_X11_like Y h_t B_t t_thrown t_n t_modulus t_rows t_strands t_letters t_listedMany t_listN t_listWhat t_f t_kept t_keptMany t_table) s.heap) (hD : va_D A (w_X11_like Y h_t B_t t_thrown t_n t_modulus t_rows t_strands t_letters t_listedMany t_listN t_listWhat t_f t_kept t_keptMany t_table)) (h : pX11_like t_thrown t_n t_f t_kept t_keptMany t_table x1 K) : W p l e R s m args below meth c s.heap [] 0 0 Q (entryFrame m ([.ref h_t, .int x1] : List Value).toArray 3) := by
  have inX11 : ∀ w ∈ u_ws RX11 TX11 29, w ∈ wsX11_like := by decide +kernel
  have hf23 := hts (.fieldLink RX11 23 "RackBenchModel" "f" "[I") (by decide +kernel)
  have hf35 := hts (.fieldLink RX11 35 "RackBenchModel" "keptMany" "[I") (by decide +kernel)
  have hf38 := hts (.fieldLink RX11 38 "RackBenchModel" "kept" "[I") (by decide +kernel)
  have hf83 := hts (.fieldLink RX11 83 "RackBenchModel" "thrown" "I") (by decide +kernel)
  have hf9 := hts (.fieldLink RX11 9 "RackBenchModel" "n" "I") (by decide +kernel)
  have hl := lv_entry ([.ref h_t, .int x1]) (n := 3) (Nat.le_of_ble_eq_true rfl)
  rw [lg_entry_eq]
  generalize (lg_sl ([.ref h_t, .int x1]) ++ List.replicate (3 - (lg_sl ([.ref h_t, .int x1])).length) Slot.unset).toArray = ls at hl ⊢
  have hl : lv_has ls 3 [(0, .ref h_t), (1, .int x1)] := hl
  generalize hH0 : s.heap = H at hP ⊢
  have hS : va_S A s.heap H [] := by rw [← hH0]; exact va_S.rf
  clear hH0
  generalize ([] : List Loc) = locs at hS ⊢
  refine lv_aload_n hx hb dX11_like_0 rfl (lv_at hl 0 rfl) ?_
  refine lv_iconst (v := 0) hx hb dX11_like_1 (by decide) ?_
  refine va_put (D := G) (ci := 10) (v := .int (0 : Int32)) (ty := .int) (C := RX11) (T := TX11) (N := 29) hx hb hts inX11 tyX11 tyX11_ok nmX11 hown hK hP hD hS 0 rfl rfl 0 (by decide) hf83 (fun _ h9 => h9) rfl (by decide +kernel) rfl rfl (Nat.le_of_ble_eq_true rfl) dX11_like_2 (fun H locs hP hD hS => ?_)
  have hP : va_P G vwCl (w_X11_like Y h_t B_t (0 : Int32) t_n t_modulus t_rows t_strands t_letters t_listedMany t_listN t_listWhat t_f t_kept t_keptMany t_table) H := hP
  have hD : va_D A (w_X11_like Y h_t B_t (0 : Int32) t_n t_modulus t_rows t_strands t_letters t_listedMany t_listN t_listWhat t_f t_kept t_keptMany t_table) := hD
  refine lv_aload_n hx hb dX11_like_5 rfl (lv_at hl 0 rfl) ?_
  refine lv_iload_n hx hb dX11_like_6 rfl (lv_at hl 1 rfl) ?_
  refine mc_iV ⟨hx, hb, hml, hown, hts⟩ hK hE hA hP hD hS (c_X11_isKept l G Y tF H.size h_t B_t (0 : Int32) t_n t_modulus t_rows t_strands t_letters t_listedMany t_listN t_listWhat t_keptMany x1 h) (cwV 1 hts gX11_like_X11_isKept rfl rfl rfl (by decide +kernel) ⟨Nat.le_trans (by decide) hRf, Nat.le_trans (by decide) hRl⟩) (fun u => (w_X11_like Y h_t B_t (0 : Int32) t_n t_modulus t_rows t_strands t_letters t_listedMany t_listN t_listWhat t_f t_kept t_keptMany t_table)) [0, 3] [1, 2, 4] [3, 0, 1, 4, 2] rfl rfl rfl rfl (by decide) (fun _ => rfl) rfl 0 10 rfl rfl rfl rfl hl.1 rfl (Nat.le_of_ble_eq_true rfl) dX11_like_7 (fun r7 u H locs h hP hD hS => ?_)
  try dsimp only at h
  have hP : va_P G vwCl (w_X11_like Y h_t B_t (0 : Int32) t_n t_modulus t_rows t_strands t_letters t_listedMany t_listN t_listWhat t_f t_kept t_keptMany t_table) H := hP
  have hD : va_D A (w_X11_like Y h_t B_t (0 : Int32) t_n t_modulus t_rows t_strands t_letters t_listedMany t_listN t_listWhat t_f t_kept t_keptMany t_table) := hD
  obtain ⟨ht, hf⟩ := h
  refine lv_if_ne (tgt := 15) hx hb dX11_like_10 (by decide) (fun c9 => ?_) (fun c9 => ?_)
  · have h := ht c9
    refine lv_iconst (v := 0) hx hb dX11_like_15 (by decide) ?_
    refine lv_istore_n (lv' := [(2, .int (0 : Int32)), (0, .ref h_t), (1, .int x1)]) hx hb dX11_like_16 rfl hl (by decide) rfl (fun ls hl => ?_)
    obtain ⟨I17, m17, hI17, hB17⟩ := h
    have L17 : ∀ (x1 : Int32) (t_thrown : Int32) (I17 : Int32 → (Nat → Int32) → Prop) (m17 : Int32 → (Nat → Int32) → Nat), (∀ (x2 : Int32) (t_f : Nat → Int32), I17 x2 t_f → pX11_like_17 t_n t_kept t_keptMany t_table K x1 t_thrown x2 t_f (fun x2' t_f' => I17 x2' t_f' ∧ m17 x2' t_f' < m17 x2 t_f)) → ∀ (n : Nat) (x2 : Int32) (t_f : Nat → Int32) (H : Heap) (locs : List Loc) (ls : Array Slot), I17 x2 t_f → m17 x2 t_f < n → va_P G vwCl (w_X11_like Y h_t B_t t_thrown t_n t_modulus t_rows t_strands t_letters t_listedMany t_listN t_listWhat t_f t_kept t_keptMany t_table) H → va_D A (w_X11_like Y h_t B_t t_thrown t_n t_modulus t_rows t_strands t_letters t_listedMany t_listN t_listWhat t_f t_kept t_keptMany t_table) → va_S A s.heap H locs → lv_has ls 3 [(0, .ref h_t), (1, .int x1), (2, .int x2)] → W p l e R s m args below meth c H locs 0 0 Q (F0 m 17 ls []) := by
      intro x1 t_thrown I17 m17 hB17 n
      induction n with
      | zero => intro x2 t_f H locs ls _ hm; exact absurd hm (Nat.not_lt_zero _)
      | succ n ih =>
        intro x2 t_f H locs ls hI hm hP hD hS hl
        obtain ⟨R17, h, rec17⟩ : ∃ R17 : Int32 → (Nat → Int32) → Prop, pX11_like_17 t_n t_kept t_keptMany t_table K x1 t_thrown x2 t_f R17 ∧ ∀ (x2 : Int32) (t_f : Nat → Int32) (H : Heap) (locs : List Loc) (ls : Array Slot), R17 x2 t_f → va_P G vwCl (w_X11_like Y h_t B_t t_thrown t_n t_modulus t_rows t_strands t_letters t_listedMany t_listN t_listWhat t_f t_kept t_keptMany t_table) H → va_D A (w_X11_like Y h_t B_t t_thrown t_n t_modulus t_rows t_strands t_letters t_listedMany t_listN t_listWhat t_f t_kept t_keptMany t_table) → va_S A s.heap H locs → lv_has ls 3 [(0, .ref h_t), (1, .int x1), (2, .int x2)] → W p l e R s m args below meth c H locs 0 0 Q (F0 m 17 ls []) := ⟨_, hB17 x2 t_f hI, fun x2 t_f H locs ls hh hP hD hS hl => ih x2 t_f H locs ls hh.1 (Nat.lt_of_lt_of_le hh.2 (Nat.le_of_lt_succ hm)) hP hD hS hl⟩
        refine lv_iload_n hx hb dX11_like_17 rfl (lv_at hl 2 rfl) ?_
        refine lv_aload_n hx hb dX11_like_18 rfl (lv_at hl 0 rfl) ?_
        refine va_get (D := G) (ci := 10) (v := .int t_n) (C := RX11) (T := TX11) (N := 29) hx hb hts inX11 hown hK hP 0 rfl rfl 1 (by decide) hf9 (fun _ h9 => h9) rfl dX11_like_19 ?_
        refine mc_iS ⟨hx, hb, hml, hown, hts⟩ hK hE hA hP hD hS (c_X11_factorial 10 l G Y tF H.size t_n h) (va_cwS 1 hts gX11_like_X11_factorial rfl rfl rfl (by decide +kernel) ⟨Nat.le_trans (by decide) hRf, Nat.le_trans (by decide) hRl⟩) (fun u => (w_X11_like Y h_t B_t t_thrown t_n t_modulus t_rows t_strands t_letters t_listedMany t_listN t_listWhat t_f t_kept t_keptMany t_table)) [] [0, 1, 2, 3, 4] [0, 1, 2, 3, 4] rfl rfl rfl rfl (by decide) (fun _ => rfl) rfl rfl hl.1 rfl (Nat.le_of_ble_eq_true rfl) dX11_like_22 (fun r22 u H locs h hP hD hS => ?_)
        try dsimp only at h
        have hP : va_P G vwCl (w_X11_like Y h_t B_t t_thrown t_n t_modulus t_rows t_strands t_letters t_listedMany t_listN t_listWhat t_f t_kept t_keptMany t_table) H := hP
        have hD : va_D A (w_X11_like Y h_t B_t t_thrown t_n t_modulus t_rows t_strands t_letters t_listedMany t_listN t_listWhat t_f t_kept t_keptMany t_table) := hD
        obtain ⟨ht, hf⟩ := h
        refine lv_icmp_ge (tgt := 76) hx hb dX11_like_25 (by decide) (fun c9 => ?_) (fun c9 => ?_)
        · have h := ht c9
          refine lv_iconst (v := 0) hx hb dX11_like_76 (by decide) ?_
          exact hret (0 : Int32) t_thrown t_f H locs ls _ hP hD hS h dX11_like_77
        · have h := hf c9
          refine lv_aload_n hx hb dX11_like_28 rfl (lv_at hl 0 rfl) ?_
          refine va_get (D := G) (ci := 10) (v := .ref (B_t 9)) (C := RX11) (T := TX11) (N := 29) hx hb hts inX11 hown hK hP 0 rfl rfl 9 (by decide) hf35 (fun _ h9 => h9) rfl dX11_like_29 ?_
          refine lv_iload_n hx hb dX11_like_32 rfl (lv_at hl 1 rfl) ?_
          obtain ⟨hin, h⟩ := h
          refine va_iald hx hb hK hP 3 0 rfl rfl hin dX11_like_33 ?_
          refine lv_aload_n hx hb dX11_like_34 rfl (lv_at hl 0 rfl) ?_
          refine va_get (D := G) (ci := 10) (v := .int t_n) (C := RX11) (T := TX11) (N := 29) hx hb hts inX11 hown hK hP 0 rfl rfl 1 (by decide) hf9 (fun _ h9 => h9) rfl dX11_like_35 ?_
          obtain ⟨ht, hf⟩ := h
          refine lv_icmp_ne (tgt := 76) hx hb dX11_like_38 (by decide) (fun c9 => ?_) (fun c9 => ?_)
          · have h := ht c9
            refine lv_iconst (v := 0) hx hb dX11_like_76 (by decide) ?_
            exact hret (0 : Int32) t_thrown t_f H locs ls _ hP hD hS h dX11_like_77
          · have h := hf c9
            refine lv_aload_n hx hb dX11_like_41 rfl (lv_at hl 0 rfl) ?_
            refine va_get (D := G) (ci := 10) (v := .int t_n) (C := RX11) (T := TX11) (N := 29) hx hb hts inX11 hown hK hP 0 rfl rfl 1 (by decide) hf9 (fun _ h9 => h9) rfl dX11_like_42 ?_
            refine lv_iload_n hx hb dX11_like_45 rfl (lv_at hl 2 rfl) ?_
            refine lv_aload_n hx hb dX11_like_46 rfl (lv_at hl 0 rfl) ?_
            refine va_get (D := G) (ci := 10) (v := .ref (B_t 5)) (C := RX11) (T := TX11) (N := 29) hx hb hts inX11 hown hK hP 0 rfl rfl 5 (by decide) hf23 (fun _ h9 => h9) rfl dX11_like_47 ?_
            refine mc_vS ⟨hx, hb, hml, hown, hts⟩ hK hE hA hP hD hS (c_X11_permutation l G Y tF H.size (B_t 5) 8 t_f t_n x2 h) (va_cwS 3 hts gX11_like_X11_permutation rfl rfl rfl (by decide +kernel) ⟨Nat.le_trans (by decide) hRf, Nat.le_trans (by decide) hRl⟩) (fun u => (w_X11_like Y h_t B_t t_thrown t_n t_modulus t_rows t_strands t_letters t_listedMany t_listN t_listWhat u t_kept t_keptMany t_table)) [1] [0, 2, 3, 4] [0, 4, 1, 2, 3] rfl rfl rfl rfl (by decide) (fun _ => rfl) rfl rfl hl.1 rfl (Nat.le_of_ble_eq_true rfl) dX11_like_50 (fun u H locs h hP hD hS => ?_)
            obtain ⟨t_f_50, rfl⟩ : ∃ z, z = u := ⟨_, rfl⟩
            try dsimp only at h
            have hP : va_P G vwCl (w_X11_like Y h_t B_t t_thrown t_n t_modulus t_rows t_strands t_letters t_listedMany t_listN t_listWhat t_f_50 t_kept t_keptMany t_table) H := hP
            have hD : va_D A (w_X11_like Y h_t B_t t_thrown t_n t_modulus t_rows t_strands t_letters t_listedMany t_listN t_listWhat t_f_50 t_kept t_keptMany t_table) := hD
            refine lv_aload_n hx hb dX11_like_53 rfl (lv_at hl 0 rfl) ?_
            refine lv_aload_n hx hb dX11_like_54 rfl (lv_at hl 0 rfl) ?_
            refine va_get (D := G) (ci := 10) (v := .ref (B_t 10)) (C := RX11) (T := TX11) (N := 29) hx hb hts inX11 hown hK hP 0 rfl rfl 10 (by decide) hf38 (fun _ h9 => h9) rfl dX11_like_55 ?_
            refine lv_bipush (v := 64) hx hb dX11_like_58 (by decide) ?_
            refine lv_iload_n hx hb dX11_like_60 rfl (lv_at hl 1 rfl) ?_
            refine lv_imul hx hb dX11_like_61 ?_
            refine mc_iV ⟨hx, hb, hml, hown, hts⟩ hK hE hA hP hD hS (c_X11_makes l G Y tF H.size h_t (B_t 10) B_t 256 t_thrown t_n t_modulus t_rows t_strands t_letters t_listedMany t_listN t_listWhat t_f_50 t_table t_kept ((64 : Int32) * x1) h) (cwV 2 hts gX11_like_X11_makes rfl rfl rfl (by decide +kernel) ⟨Nat.le_trans (by decide) hRf, Nat.le_trans (by decide) hRl⟩) (fun u => (w_X11_like Y h_t B_t t_thrown t_n t_modulus t_rows t_strands t_letters t_listedMany t_listN t_listWhat t_f_50 t_kept t_keptMany t_table)) [0, 1, 4, 2] [3] [1, 2, 4, 0, 3] rfl rfl rfl rfl (by decide) (fun _ => rfl) rfl 0 10 rfl rfl rfl rfl hl.1 rfl (Nat.le_of_ble_eq_true rfl) dX11_like_62 (fun r62 u H locs h hP hD hS => ?_)
            try dsimp only at h
            have hP : va_P G vwCl (w_X11_like Y h_t B_t t_thrown t_n t_modulus t_rows t_strands t_letters t_listedMany t_listN t_listWhat t_f_50 t_kept t_keptMany t_table) H := hP
            have hD : va_D A (w_X11_like Y h_t B_t t_thrown t_n t_modulus t_rows t_strands t_letters t_listedMany t_listN t_listWhat t_f_50 t_kept t_keptMany t_table) := hD
            obtain ⟨ht, hf⟩ := h
            refine lv_if_eq (tgt := 70) hx hb dX11_like_65 (by decide) (fun c9 => ?_) (fun c9 => ?_)
            · have h := ht c9
              refine lv_iinc (v := (x2 + 1)) (lv' := [(2, .int (x2 + 1)), (0, .ref h_t), (1, .int x1)]) hx hb dX11_like_70 hl (k := 2) rfl rfl (by decide) rfl (fun ls hl => ?_)
              refine lv_goto (tgt := 17) hx hb dX11_like_73 (by decide) ?_
              exact rec17 (x2 + 1) t_f_50 H locs ls h hP hD hS (lv_sub hl [1, 2, 0] rfl)
            · have h := hf c9
              refine lv_iconst (v := 1) hx hb dX11_like_68 (by decide) ?_
              exact hret (1 : Int32) t_thrown t_f_50 H locs ls _ hP hD hS h dX11_like_69
    exact L17 x1 (0 : Int32) I17 m17 hB17 _ (0 : Int32) t_f H locs ls hI17 (Nat.lt_succ_self _) hP hD hS (lv_sub hl [1, 2, 0] rfl)
  · have h := hf c9
    refine lv_iconst (v := -1) hx hb dX11_like_13 (by decide) ?_
    exact hret (-1 : Int32) (0 : Int32) t_f H locs ls _ hP hD hS h dX11_like_14

set_option maxHeartbeats 20000000 in
set_option maxRecDepth 100000 in
theorem c_X11_like (l : Launch) (G : va_G) (Y : Nat → ClassId) (tF sz : Nat) (h_t : Nat) (B_t : Nat → Nat) (t_thrown : Int32) (t_n : Int32) (t_modulus : Int32) (t_rows : Int32) (t_strands : Int32) (t_letters : Int32) (t_listedMany : Int32) (t_listN : Int32) (t_listWhat : Int32) (t_f : Nat → Int32) (t_kept : Nat → Int32) (t_keptMany : Nat → Int32) (t_table : Nat → Int32) (x1 : Int32) {K : Int32 → Int32 → (Nat → Int32) → Prop} (h : pX11_like t_thrown t_n t_f t_kept t_keptMany t_table x1 K) : Met l yX11_like wsX11_like ({ frames := 12, cells := 0, slots := 0, locals := 248 }) (PcM G Y tF sz (w_X11_like Y h_t B_t t_thrown t_n t_modulus t_rows t_strands t_letters t_listedMany t_listN t_listWhat t_f t_kept t_keptMany t_table) [.ref h_t, .int x1]) (va_Qi (fun (r : Int32) (u : Int32 × (Nat → Int32)) => K r u.1 u.2) (fun u t => BM G Y (va_A (w_X11_like Y h_t B_t t_thrown t_n t_modulus t_rows t_strands t_letters t_listedMany t_listN t_listWhat t_f t_kept t_keptMany t_table) sz) (w_X11_like Y h_t B_t u.1 t_n t_modulus t_rows t_strands t_letters t_listedMany t_listN t_listWhat u.2 t_kept t_keptMany t_table) t) (va_A (w_X11_like Y h_t B_t t_thrown t_n t_modulus t_rows t_strands t_letters t_listedMany t_listN t_listWhat t_f t_kept t_keptMany t_table) sz)) 0 0 (va_A (w_X11_like Y h_t B_t t_thrown t_n t_modulus t_rows t_strands t_letters t_listedMany t_listN t_listWhat t_f t_kept t_keptMany t_table) sz) := by
  refine Met.ofW (cc := cX11_like) (maxL := 3) (ret := (some .int)) (by decide +kernel) rfl ?_
  intro p e s m args below meth c s₁ B hml hv
  obtain ⟨rfl, hsz, hP, hK, hD0, hE⟩ := hv
  have hts := atoms_spec (ws := wsX11_like) B.pre
  have hown : s.vm.findClass RX11 = some m.cls := findClass_of_methodNamed B.named
  have hlocks := B.notSynchronized
  subst hsz
  have hD := hD0.self (sz := s.heap.size)
  exact wk_X11_like h_t B_t t_thrown t_n t_modulus t_rows t_strands t_letters t_listedMany t_listN t_listWhat t_f t_kept t_keptMany t_table x1 B.exec B.bytes hml hown hts hK hE (fun q h => Or.inr h) (Nat.le_refl _) (Nat.le_refl _) (fun r t_thrown t_f H locs ls pc hP hD hS hk hd => W.iret (v := r) B.exec B.bytes B.returns (fun t ht hW => ⟨⟨r, (t_thrown, t_f), rfl, hk, by rw [ht]; exact hP, va_K.moved hW.alike hK, hD⟩, hS.F ht⟩) hS.2.2 hd) hP hD h

abbrev w_X11_dual (Y : Nat → ClassId) (h_t : Nat) (B_t : Nat → Nat) (t_thrown : Int32) (t_n : Int32) (t_modulus : Int32) (t_rows : Int32) (t_strands : Int32) (t_letters : Int32) (t_listedMany : Int32) (t_listN : Int32) (t_listWhat : Int32) (t_g : Nat → Int32) (t_table : Nat → Int32) (t_twists : Nat → Int32) : va_W := [(h_t, .inr (10, [.int t_thrown, .int t_n, .ref (B_t 2), .int t_modulus, .ref (B_t 4), .ref (B_t 5), .ref (B_t 6), .ref (B_t 7), .ref (B_t 8), .ref (B_t 9), .ref (B_t 10), .int t_rows, .ref (B_t 12), .ref (B_t 13), .ref (B_t 14), .ref (B_t 15), .ref (B_t 16), .ref (B_t 17), .ref (B_t 18), .ref (B_t 19), .int t_strands, .int t_letters, .ref (B_t 22), .ref (B_t 23), .ref (B_t 24), .ref (B_t 25), .int t_listedMany, .int t_listN, .int t_listWhat])), ((B_t 6), .inl (Y 0, 8, .inl t_g)), ((B_t 2), .inl (Y 0, 64, .inl t_table)), ((B_t 4), .inl (Y 0, 64, .inl t_twists))]

set_option maxHeartbeats 20000000 in
set_option maxRecDepth 100000 in
theorem wk_X11_dual {p : Program} {l : Launch} {e : Env} {R : Room} {s : State} {m : MethodId} {args : Array Value} {below : List Frame} {meth : Method} {c : Code} {Q : State → Prop} {G : va_G} {Y : Nat → ClassId} {tF : Nat} {A : Nat → Prop} (h_t : Nat) (B_t : Nat → Nat) (t_thrown : Int32) (t_n : Int32) (t_modulus : Int32) (t_rows : Int32) (t_strands : Int32) (t_letters : Int32) (t_listedMany : Int32) (t_listN : Int32) (t_listWhat : Int32) (t_g : Nat → Int32) (t_table : Nat → Int32) (t_twists : Nat → Int32) {K : Int32 → Int32 → (Nat → Int32) → (Nat → Int32) → (Nat → Int32) → Prop} (hx : p.tables.exec = Jvm.exec) (hb : c.code = cX11_dual) (hml : c.maxLocals = 3) (hown : s.vm.findClass RX11 = some m.cls) (hts : ∀ w ∈ wsX11_dual, w.before args s = true) (hK : va_K G vwCl (tyL Y) s) (hE : Ev A tF s) (hA : ∀ q, s.heap.size ≤ q → A q) (hRf : 2 ≤ R.frames) (hRl : 45 ≤ R.locals) (hret : ∀ (r : Int32) (t_thrown : Int32) (t_g : Nat → Int32) (t_table : Nat → Int32) (t_twists : Nat → Int32) (H : Heap) (locs : List Loc) (ls : Array Slot) (pc : Nat), va_P G vwCl (w_X11_dual Y h_t B_t t_thrown t_n t_modulus t_rows t_strands t_letters t_listedMany t_listN t_listWhat t_g t_table t_twists) H → va_D A (w_X11_dual Y h_t B_t t_thrown t_n t_modulus t_rows t_strands t_letters t_listedMany t_listN t_listWhat t_g t_table t_twists) → va_S A s.heap H locs → zb r → K r t_thrown t_g t_table t_twists → decode cX11_dual pc = .ok (.ireturn, 1) → W p l e R s m args below meth c H locs 0 0 Q (F0 m pc ls [.int r])) (hP : va_P G vwCl (w_X11_dual Y h_t B_t t_thrown t_n t_modulus t_rows t_strands t_letters t_listedMany t_listN t_listWhat t_g t_table t_twists) s.heap) (hD : va_D A (w_X11_dual Y h_t B_t t_thrown t_n t_modulus t_rows t_strands t_letters t_listedMany t_listN t_listWhat t_g t_table t_twists)) (h : pX11_dual t_thrown t_n t_g t_table t_twists K) : W p l e R s m args below meth c s.heap [] 0 0 Q (entryFrame m ([.ref h_t] : List Value).toArray 3) := by
  have inX11 : ∀ w ∈ u_ws RX11 TX11 29, w ∈ wsX11_dual := by decide +kernel
  have hf13 := hts (.fieldLink RX11 13 "RackBenchModel" "table" "[I") (by decide +kernel)
  have hf26 := hts (.fieldLink RX11 26 "RackBenchModel" "g" "[I") (by decide +kernel)
  have hf83 := hts (.fieldLink RX11 83 "RackBenchModel" "thrown" "I") (by decide +kernel)
  have hf9 := hts (.fieldLink RX11 9 "RackBenchModel" "n" "I") (by decide +kernel)
  have hl := lv_entry ([.ref h_t]) (n := 3) (Nat.le_of_ble_eq_true rfl)
  rw [lg_entry_eq]
  generalize (lg_sl ([.ref h_t]) ++ List.replicate (3 - (lg_sl ([.ref h_t])).length) Slot.unset).toArray = ls at hl ⊢
  have hl : lv_has ls 3 [(0, .ref h_t)] := hl
  generalize hH0 : s.heap = H at hP ⊢
  have hS : va_S A s.heap H [] := by rw [← hH0]; exact va_S.rf
  clear hH0
  generalize ([] : List Loc) = locs at hS ⊢
  refine lv_aload_n hx hb dX11_dual_0 rfl (lv_at hl 0 rfl) ?_
  refine lv_iconst (v := 0) hx hb dX11_dual_1 (by decide) ?_
  refine va_put (D := G) (ci := 10) (v := .int (0 : Int32)) (ty := .int) (C := RX11) (T := TX11) (N := 29) hx hb hts inX11 tyX11 tyX11_ok nmX11 hown hK hP hD hS 0 rfl rfl 0 (by decide) hf83 (fun _ h9 => h9) rfl (by decide +kernel) rfl rfl (Nat.le_of_ble_eq_true rfl) dX11_dual_2 (fun H locs hP hD hS => ?_)
  have hP : va_P G vwCl (w_X11_dual Y h_t B_t (0 : Int32) t_n t_modulus t_rows t_strands t_letters t_listedMany t_listN t_listWhat t_g t_table t_twists) H := hP
  have hD : va_D A (w_X11_dual Y h_t B_t (0 : Int32) t_n t_modulus t_rows t_strands t_letters t_listedMany t_listN t_listWhat t_g t_table t_twists) := hD
  refine lv_aload_n hx hb dX11_dual_5 rfl (lv_at hl 0 rfl) ?_
  refine mc_iV ⟨hx, hb, hml, hown, hts⟩ hK hE hA hP hD hS (c_X11_unevenRow l G Y tF H.size h_t B_t (0 : Int32) t_n t_modulus t_rows t_strands t_letters t_listedMany t_listN t_listWhat t_table h) (cwV 0 hts gX11_dual_X11_unevenRow rfl rfl rfl (by decide +kernel) ⟨Nat.le_trans (by decide) hRf, Nat.le_trans (by decide) hRl⟩) (fun u => (w_X11_dual Y h_t B_t (0 : Int32) t_n t_modulus t_rows t_strands t_letters t_listedMany t_listN t_listWhat t_g t_table t_twists)) [0, 2] [1, 3] [2, 0, 3, 1] rfl rfl rfl rfl (by decide) (fun _ => rfl) rfl 0 10 rfl rfl rfl rfl hl.1 rfl (Nat.le_of_ble_eq_true rfl) dX11_dual_6 (fun r6 u H locs h hP hD hS => ?_)
  try dsimp only at h
  have hP : va_P G vwCl (w_X11_dual Y h_t B_t (0 : Int32) t_n t_modulus t_rows t_strands t_letters t_listedMany t_listN t_listWhat t_g t_table t_twists) H := hP
  have hD : va_D A (w_X11_dual Y h_t B_t (0 : Int32) t_n t_modulus t_rows t_strands t_letters t_listedMany t_listN t_listWhat t_g t_table t_twists) := hD
  obtain ⟨ht, hf⟩ := h
  refine lv_if_lt (tgt := 14) hx hb dX11_dual_9 (by decide) (fun c9 => ?_) (fun c9 => ?_)
  · have h := ht c9
    refine lv_aload_n hx hb dX11_dual_14 rfl (lv_at hl 0 rfl) ?_
    refine mc_vV ⟨hx, hb, hml, hown, hts⟩ hK hE hA hP hD hS (c_X11_straight l G Y tF H.size h_t B_t (0 : Int32) t_n t_modulus t_rows t_strands t_letters t_listedMany t_listN t_listWhat t_twists h) (cwV 0 hts gX11_dual_X11_straight rfl rfl rfl (by decide +kernel) ⟨Nat.le_trans (by decide) hRf, Nat.le_trans (by decide) hRl⟩) (fun u => (w_X11_dual Y h_t B_t (0 : Int32) t_n t_modulus t_rows t_strands t_letters t_listedMany t_listN t_listWhat t_g t_table u)) [0, 3] [1, 2] [2, 0, 1, 3] rfl rfl rfl rfl (by decide) (fun _ => rfl) rfl 0 10 rfl rfl rfl rfl hl.1 rfl (Nat.le_of_ble_eq_true rfl) dX11_dual_15 (fun u H locs h hP hD hS => ?_)
    obtain ⟨t_twists_15, rfl⟩ : ∃ z, z = u := ⟨_, rfl⟩
    try dsimp only at h
    have hP : va_P G vwCl (w_X11_dual Y h_t B_t (0 : Int32) t_n t_modulus t_rows t_strands t_letters t_listedMany t_listN t_listWhat t_g t_table t_twists_15) H := hP
    have hD : va_D A (w_X11_dual Y h_t B_t (0 : Int32) t_n t_modulus t_rows t_strands t_letters t_listedMany t_listN t_listWhat t_g t_table t_twists_15) := hD
    refine lv_iconst (v := 0) hx hb dX11_dual_18 (by decide) ?_
    refine lv_istore_n (lv' := [(1, .int (0 : Int32)), (0, .ref h_t)]) hx hb dX11_dual_19 rfl hl (by decide) rfl (fun ls hl => ?_)
    obtain ⟨I20, m20, hI20, hB20⟩ := h
    have L20 : ∀ (t_thrown : Int32) (t_twists : Nat → Int32) (I20 : Int32 → (Nat → Int32) → (Nat → Int32) → Prop) (m20 : Int32 → (Nat → Int32) → (Nat → Int32) → Nat), (∀ (x1 : Int32) (t_g : Nat → Int32) (t_table : Nat → Int32), I20 x1 t_g t_table → pX11_dual_20 t_n K t_thrown t_twists x1 t_g t_table (fun x1' t_g' t_table' => I20 x1' t_g' t_table' ∧ m20 x1' t_g' t_table' < m20 x1 t_g t_table)) → ∀ (n : Nat) (x1 : Int32) (t_g : Nat → Int32) (t_table : Nat → Int32) (H : Heap) (locs : List Loc) (ls : Array Slot), I20 x1 t_g t_table → m20 x1 t_g t_table < n → va_P G vwCl (w_X11_dual Y h_t B_t t_thrown t_n t_modulus t_rows t_strands t_letters t_listedMany t_listN t_listWhat t_g t_table t_twists) H → va_D A (w_X11_dual Y h_t B_t t_thrown t_n t_modulus t_rows t_strands t_letters t_listedMany t_listN t_listWhat t_g t_table t_twists) → va_S A s.heap H locs → lv_has ls 3 [(0, .ref h_t), (1, .int x1)] → W p l e R s m args below meth c H locs 0 0 Q (F0 m 20 ls []) := by
      intro t_thrown t_twists I20 m20 hB20 n
      induction n with
      | zero => intro x1 t_g t_table H locs ls _ hm; exact absurd hm (Nat.not_lt_zero _)
      | succ n ih =>
        intro x1 t_g t_table H locs ls hI hm hP hD hS hl
        obtain ⟨R20, h, rec20⟩ : ∃ R20 : Int32 → (Nat → Int32) → (Nat → Int32) → Prop, pX11_dual_20 t_n K t_thrown t_twists x1 t_g t_table R20 ∧ ∀ (x1 : Int32) (t_g : Nat → Int32) (t_table : Nat → Int32) (H : Heap) (locs : List Loc) (ls : Array Slot), R20 x1 t_g t_table → va_P G vwCl (w_X11_dual Y h_t B_t t_thrown t_n t_modulus t_rows t_strands t_letters t_listedMany t_listN t_listWhat t_g t_table t_twists) H → va_D A (w_X11_dual Y h_t B_t t_thrown t_n t_modulus t_rows t_strands t_letters t_listedMany t_listN t_listWhat t_g t_table t_twists) → va_S A s.heap H locs → lv_has ls 3 [(0, .ref h_t), (1, .int x1)] → W p l e R s m args below meth c H locs 0 0 Q (F0 m 20 ls []) := ⟨_, hB20 x1 t_g t_table hI, fun x1 t_g t_table H locs ls hh hP hD hS hl => ih x1 t_g t_table H locs ls hh.1 (Nat.lt_of_lt_of_le hh.2 (Nat.le_of_lt_succ hm)) hP hD hS hl⟩
        refine lv_iload_n hx hb dX11_dual_20 rfl (lv_at hl 1 rfl) ?_
        refine lv_aload_n hx hb dX11_dual_21 rfl (lv_at hl 0 rfl) ?_
        refine va_get (D := G) (ci := 10) (v := .int t_n) (C := RX11) (T := TX11) (N := 29) hx hb hts inX11 hown hK hP 0 rfl rfl 1 (by decide) hf9 (fun _ h9 => h9) rfl dX11_dual_22 ?_
        obtain ⟨ht, hf⟩ := h
        refine lv_icmp_ge (tgt := 95) hx hb dX11_dual_25 (by decide) (fun c9 => ?_) (fun c9 => ?_)
        · have h := ht c9
          refine lv_iconst (v := 1) hx hb dX11_dual_95 (by decide) ?_
          obtain ⟨hz, h⟩ := h
          exact hret (1 : Int32) t_thrown t_g t_table t_twists H locs ls _ hP hD hS hz h dX11_dual_96
        · have h := hf c9
          refine lv_iconst (v := 0) hx hb dX11_dual_28 (by decide) ?_
          refine lv_istore_n (lv' := [(2, .int (0 : Int32)), (0, .ref h_t), (1, .int x1)]) hx hb dX11_dual_29 rfl hl (by decide) rfl (fun ls hl => ?_)
          obtain ⟨I30, m30, hI30, hB30⟩ := h
          have L30 : ∀ (x1 : Int32) (t_table : Nat → Int32) (I30 : Int32 → (Nat → Int32) → Prop) (m30 : Int32 → (Nat → Int32) → Nat), (∀ (x2 : Int32) (t_g : Nat → Int32), I30 x2 t_g → pX11_dual_30 t_n R20 K t_thrown t_twists x1 t_table x2 t_g (fun x2' t_g' => I30 x2' t_g' ∧ m30 x2' t_g' < m30 x2 t_g)) → ∀ (n : Nat) (x2 : Int32) (t_g : Nat → Int32) (H : Heap) (locs : List Loc) (ls : Array Slot), I30 x2 t_g → m30 x2 t_g < n → va_P G vwCl (w_X11_dual Y h_t B_t t_thrown t_n t_modulus t_rows t_strands t_letters t_listedMany t_listN t_listWhat t_g t_table t_twists) H → va_D A (w_X11_dual Y h_t B_t t_thrown t_n t_modulus t_rows t_strands t_letters t_listedMany t_listN t_listWhat t_g t_table t_twists) → va_S A s.heap H locs → lv_has ls 3 [(0, .ref h_t), (1, .int x1), (2, .int x2)] → W p l e R s m args below meth c H locs 0 0 Q (F0 m 30 ls []) := by
            intro x1 t_table I30 m30 hB30 n
            induction n with
            | zero => intro x2 t_g H locs ls _ hm; exact absurd hm (Nat.not_lt_zero _)
            | succ n ih =>
              intro x2 t_g H locs ls hI hm hP hD hS hl
              obtain ⟨R30, h, rec30⟩ : ∃ R30 : Int32 → (Nat → Int32) → Prop, pX11_dual_30 t_n R20 K t_thrown t_twists x1 t_table x2 t_g R30 ∧ ∀ (x2 : Int32) (t_g : Nat → Int32) (H : Heap) (locs : List Loc) (ls : Array Slot), R30 x2 t_g → va_P G vwCl (w_X11_dual Y h_t B_t t_thrown t_n t_modulus t_rows t_strands t_letters t_listedMany t_listN t_listWhat t_g t_table t_twists) H → va_D A (w_X11_dual Y h_t B_t t_thrown t_n t_modulus t_rows t_strands t_letters t_listedMany t_listN t_listWhat t_g t_table t_twists) → va_S A s.heap H locs → lv_has ls 3 [(0, .ref h_t), (1, .int x1), (2, .int x2)] → W p l e R s m args below meth c H locs 0 0 Q (F0 m 30 ls []) := ⟨_, hB30 x2 t_g hI, fun x2 t_g H locs ls hh hP hD hS hl => ih x2 t_g H locs ls hh.1 (Nat.lt_of_lt_of_le hh.2 (Nat.le_of_lt_succ hm)) hP hD hS hl⟩
              refine lv_iload_n hx hb dX11_dual_30 rfl (lv_at hl 2 rfl) ?_
              refine lv_aload_n hx hb dX11_dual_31 rfl (lv_at hl 0 rfl) ?_
              refine va_get (D := G) (ci := 10) (v := .int t_n) (C := RX11) (T := TX11) (N := 29) hx hb hts inX11 hown hK hP 0 rfl rfl 1 (by decide) hf9 (fun _ h9 => h9) rfl dX11_dual_32 ?_
              obtain ⟨ht, hf⟩ := h
              refine lv_icmp_ge (tgt := 56) hx hb dX11_dual_35 (by decide) (fun c9 => ?_) (fun c9 => ?_)
              · have h := ht c9
                refine lv_iconst (v := 0) hx hb dX11_dual_56 (by decide) ?_
                refine lv_istore_n (lv' := [(2, .int (0 : Int32)), (0, .ref h_t), (1, .int x1)]) hx hb dX11_dual_57 rfl hl (by decide) rfl (fun ls hl => ?_)
                obtain ⟨I58, m58, hI58, hB58⟩ := h
                have L58 : ∀ (x1 : Int32) (t_g : Nat → Int32) (I58 : Int32 → (Nat → Int32) → Prop) (m58 : Int32 → (Nat → Int32) → Nat), (∀ (x2 : Int32) (t_table : Nat → Int32), I58 x2 t_table → pX11_dual_58 t_n R20 R30 K t_thrown t_twists x1 t_g x2 t_table (fun x2' t_table' => I58 x2' t_table' ∧ m58 x2' t_table' < m58 x2 t_table)) → ∀ (n : Nat) (x2 : Int32) (t_table : Nat → Int32) (H : Heap) (locs : List Loc) (ls : Array Slot), I58 x2 t_table → m58 x2 t_table < n → va_P G vwCl (w_X11_dual Y h_t B_t t_thrown t_n t_modulus t_rows t_strands t_letters t_listedMany t_listN t_listWhat t_g t_table t_twists) H → va_D A (w_X11_dual Y h_t B_t t_thrown t_n t_modulus t_rows t_strands t_letters t_listedMany t_listN t_listWhat t_g t_table t_twists) → va_S A s.heap H locs → lv_has ls 3 [(0, .ref h_t), (1, .int x1), (2, .int x2)] → W p l e R s m args below meth c H locs 0 0 Q (F0 m 58 ls []) := by
                  intro x1 t_g I58 m58 hB58 n
                  induction n with
                  | zero => intro x2 t_table H locs ls _ hm; exact absurd hm (Nat.not_lt_zero _)
                  | succ n ih =>
                    intro x2 t_table H locs ls hI hm hP hD hS hl
                    obtain ⟨R58, h, rec58⟩ : ∃ R58 : Int32 → (Nat → Int32) → Prop, pX11_dual_58 t_n R20 R30 K t_thrown t_twists x1 t_g x2 t_table R58 ∧ ∀ (x2 : Int32) (t_table : Nat → Int32) (H : Heap) (locs : List Loc) (ls : Array Slot), R58 x2 t_table → va_P G vwCl (w_X11_dual Y h_t B_t t_thrown t_n t_modulus t_rows t_strands t_letters t_listedMany t_listN t_listWhat t_g t_table t_twists) H → va_D A (w_X11_dual Y h_t B_t t_thrown t_n t_modulus t_rows t_strands t_letters t_listedMany t_listN t_listWhat t_g t_table t_twists) → va_S A s.heap H locs → lv_has ls 3 [(0, .ref h_t), (1, .int x1), (2, .int x2)] → W p l e R s m args below meth c H locs 0 0 Q (F0 m 58 ls []) := ⟨_, hB58 x2 t_table hI, fun x2 t_table H locs ls hh hP hD hS hl => ih x2 t_table H locs ls hh.1 (Nat.lt_of_lt_of_le hh.2 (Nat.le_of_lt_succ hm)) hP hD hS hl⟩
                    refine lv_iload_n hx hb dX11_dual_58 rfl (lv_at hl 2 rfl) ?_
                    refine lv_aload_n hx hb dX11_dual_59 rfl (lv_at hl 0 rfl) ?_
                    refine va_get (D := G) (ci := 10) (v := .int t_n) (C := RX11) (T := TX11) (N := 29) hx hb hts inX11 hown hK hP 0 rfl rfl 1 (by decide) hf9 (fun _ h9 => h9) rfl dX11_dual_60 ?_
                    obtain ⟨ht, hf⟩ := h
                    refine lv_icmp_ge (tgt := 89) hx hb dX11_dual_63 (by decide) (fun c9 => ?_) (fun c9 => ?_)
                    · have h := ht c9
                      refine lv_iinc (v := (x1 + 1)) (lv' := [(1, .int (x1 + 1)), (0, .ref h_t), (2, .int x2)]) hx hb dX11_dual_89 hl (k := 1) rfl rfl (by decide) rfl (fun ls hl => ?_)
                      refine lv_goto (tgt := 20) hx hb dX11_dual_92 (by decide) ?_
                      exact rec20 (x1 + 1) t_g t_table H locs ls h hP hD hS (lv_sub hl [1, 0] rfl)
                    · have h := hf c9
                      refine lv_aload_n hx hb dX11_dual_66 rfl (lv_at hl 0 rfl) ?_
                      refine va_get (D := G) (ci := 10) (v := .ref (B_t 2)) (C := RX11) (T := TX11) (N := 29) hx hb hts inX11 hown hK hP 0 rfl rfl 2 (by decide) hf13 (fun _ h9 => h9) rfl dX11_dual_67 ?_
                      refine lv_bipush (v := 8) hx hb dX11_dual_70 (by decide) ?_
                      refine lv_iload_n hx hb dX11_dual_72 rfl (lv_at hl 1 rfl) ?_
                      refine lv_imul hx hb dX11_dual_73 ?_
                      refine lv_iload_n hx hb dX11_dual_74 rfl (lv_at hl 2 rfl) ?_
                      refine lv_iadd hx hb dX11_dual_75 ?_
                      refine lv_aload_n hx hb dX11_dual_76 rfl (lv_at hl 0 rfl) ?_
                      refine va_get (D := G) (ci := 10) (v := .ref (B_t 6)) (C := RX11) (T := TX11) (N := 29) hx hb hts inX11 hown hK hP 0 rfl rfl 6 (by decide) hf26 (fun _ h9 => h9) rfl dX11_dual_77 ?_
                      refine lv_iload_n hx hb dX11_dual_80 rfl (lv_at hl 2 rfl) ?_
                      obtain ⟨hin, h⟩ := h
                      refine va_iald hx hb hK hP 1 0 rfl rfl hin dX11_dual_81 ?_
                      obtain ⟨hin, h⟩ := h
                      refine va_iast hx hb hK hP hD hS 2 0 rfl rfl hin dX11_dual_82 (fun H locs hP hD hS => ?_)
                      have hP : va_P G vwCl (w_X11_dual Y h_t B_t t_thrown t_n t_modulus t_rows t_strands t_letters t_listedMany t_listN t_listWhat t_g (upd t_table (Int32.toNatClampNeg (((8 : Int32) * x1) + x2)) (t_g (Int32.toNatClampNeg x2))) t_twists) H := hP
                      have hD : va_D A (w_X11_dual Y h_t B_t t_thrown t_n t_modulus t_rows t_strands t_letters t_listedMany t_listN t_listWhat t_g (upd t_table (Int32.toNatClampNeg (((8 : Int32) * x1) + x2)) (t_g (Int32.toNatClampNeg x2))) t_twists) := hD
                      refine lv_iinc (v := (x2 + 1)) (lv' := [(2, .int (x2 + 1)), (0, .ref h_t), (1, .int x1)]) hx hb dX11_dual_83 hl (k := 2) rfl rfl (by decide) rfl (fun ls hl => ?_)
                      refine lv_goto (tgt := 58) hx hb dX11_dual_86 (by decide) ?_
                      exact rec58 (x2 + 1) (upd t_table (Int32.toNatClampNeg (((8 : Int32) * x1) + x2)) (t_g (Int32.toNatClampNeg x2))) H locs ls h hP hD hS (lv_sub hl [1, 2, 0] rfl)
                exact L58 x1 t_g I58 m58 hB58 _ (0 : Int32) t_table H locs ls hI58 (Nat.lt_succ_self _) hP hD hS (lv_sub hl [1, 2, 0] rfl)
              · have h := hf c9
                refine lv_aload_n hx hb dX11_dual_38 rfl (lv_at hl 0 rfl) ?_
                refine va_get (D := G) (ci := 10) (v := .ref (B_t 6)) (C := RX11) (T := TX11) (N := 29) hx hb hts inX11 hown hK hP 0 rfl rfl 6 (by decide) hf26 (fun _ h9 => h9) rfl dX11_dual_39 ?_
                refine lv_aload_n hx hb dX11_dual_42 rfl (lv_at hl 0 rfl) ?_
                refine lv_iload_n hx hb dX11_dual_43 rfl (lv_at hl 1 rfl) ?_
                refine lv_iload_n hx hb dX11_dual_44 rfl (lv_at hl 2 rfl) ?_
                refine mc_iV ⟨hx, hb, hml, hown, hts⟩ hK hE hA hP hD hS (c_X11_by l G Y tF H.size h_t B_t t_thrown t_n t_modulus t_rows t_strands t_letters t_listedMany t_listN t_listWhat t_table x1 x2 h) (cwV 2 hts gX11_dual_X11_by rfl rfl rfl (by decide +kernel) ⟨Nat.le_trans (by decide) hRf, Nat.le_trans (by decide) hRl⟩) (fun u => (w_X11_dual Y h_t B_t t_thrown t_n t_modulus t_rows t_strands t_letters t_listedMany t_listN t_listWhat t_g t_table t_twists)) [0, 2] [1, 3] [2, 0, 3, 1] rfl rfl rfl rfl (by decide) (fun _ => rfl) rfl 0 10 rfl rfl rfl rfl hl.1 rfl (Nat.le_of_ble_eq_true rfl) dX11_dual_45 (fun r45 u H locs h hP hD hS => ?_)
                try dsimp only at h
                have hP : va_P G vwCl (w_X11_dual Y h_t B_t t_thrown t_n t_modulus t_rows t_strands t_letters t_listedMany t_listN t_listWhat t_g t_table t_twists) H := hP
                have hD : va_D A (w_X11_dual Y h_t B_t t_thrown t_n t_modulus t_rows t_strands t_letters t_listedMany t_listN t_listWhat t_g t_table t_twists) := hD
                refine lv_iload_n hx hb dX11_dual_48 rfl (lv_at hl 2 rfl) ?_
                obtain ⟨hin, h⟩ := h
                refine va_iast hx hb hK hP hD hS 1 0 rfl rfl hin dX11_dual_49 (fun H locs hP hD hS => ?_)
                have hP : va_P G vwCl (w_X11_dual Y h_t B_t t_thrown t_n t_modulus t_rows t_strands t_letters t_listedMany t_listN t_listWhat (upd t_g (Int32.toNatClampNeg r45) x2) t_table t_twists) H := hP
                have hD : va_D A (w_X11_dual Y h_t B_t t_thrown t_n t_modulus t_rows t_strands t_letters t_listedMany t_listN t_listWhat (upd t_g (Int32.toNatClampNeg r45) x2) t_table t_twists) := hD
                refine lv_iinc (v := (x2 + 1)) (lv' := [(2, .int (x2 + 1)), (0, .ref h_t), (1, .int x1)]) hx hb dX11_dual_50 hl (k := 2) rfl rfl (by decide) rfl (fun ls hl => ?_)
                refine lv_goto (tgt := 30) hx hb dX11_dual_53 (by decide) ?_
                exact rec30 (x2 + 1) (upd t_g (Int32.toNatClampNeg r45) x2) H locs ls h hP hD hS (lv_sub hl [1, 2, 0] rfl)
          exact L30 x1 t_table I30 m30 hB30 _ (0 : Int32) t_g H locs ls hI30 (Nat.lt_succ_self _) hP hD hS (lv_sub hl [1, 2, 0] rfl)
    exact L20 (0 : Int32) t_twists_15 I20 m20 hB20 _ (0 : Int32) t_g t_table H locs ls hI20 (Nat.lt_succ_self _) hP hD hS (lv_sub hl [1, 0] rfl)
  · have h := hf c9
    refine lv_iconst (v := 0) hx hb dX11_dual_12 (by decide) ?_
    obtain ⟨hz, h⟩ := h
    exact hret (0 : Int32) (0 : Int32) t_g t_table t_twists H locs ls _ hP hD hS hz h dX11_dual_13

set_option maxHeartbeats 20000000 in
set_option maxRecDepth 100000 in
theorem c_X11_dual (l : Launch) (G : va_G) (Y : Nat → ClassId) (tF sz : Nat) (h_t : Nat) (B_t : Nat → Nat) (t_thrown : Int32) (t_n : Int32) (t_modulus : Int32) (t_rows : Int32) (t_strands : Int32) (t_letters : Int32) (t_listedMany : Int32) (t_listN : Int32) (t_listWhat : Int32) (t_g : Nat → Int32) (t_table : Nat → Int32) (t_twists : Nat → Int32) {K : Int32 → Int32 → (Nat → Int32) → (Nat → Int32) → (Nat → Int32) → Prop} (h : pX11_dual t_thrown t_n t_g t_table t_twists K) : Met l yX11_dual wsX11_dual ({ frames := 2, cells := 0, slots := 0, locals := 45 }) (PcM G Y tF sz (w_X11_dual Y h_t B_t t_thrown t_n t_modulus t_rows t_strands t_letters t_listedMany t_listN t_listWhat t_g t_table t_twists) [.ref h_t]) (va_Qi (fun (r : Int32) (u : Int32 × (Nat → Int32) × (Nat → Int32) × (Nat → Int32)) => K r u.1 u.2.1 u.2.2.1 u.2.2.2) (fun u t => BM G Y (va_A (w_X11_dual Y h_t B_t t_thrown t_n t_modulus t_rows t_strands t_letters t_listedMany t_listN t_listWhat t_g t_table t_twists) sz) (w_X11_dual Y h_t B_t u.1 t_n t_modulus t_rows t_strands t_letters t_listedMany t_listN t_listWhat u.2.1 u.2.2.1 u.2.2.2) t) (va_A (w_X11_dual Y h_t B_t t_thrown t_n t_modulus t_rows t_strands t_letters t_listedMany t_listN t_listWhat t_g t_table t_twists) sz)) 0 0 (va_A (w_X11_dual Y h_t B_t t_thrown t_n t_modulus t_rows t_strands t_letters t_listedMany t_listN t_listWhat t_g t_table t_twists) sz) := by
  refine Met.ofW (cc := cX11_dual) (maxL := 3) (ret := (some .boolean)) (by decide +kernel) rfl ?_
  intro p e s m args below meth c s₁ B hml hv
  obtain ⟨rfl, hsz, hP, hK, hD0, hE⟩ := hv
  have hts := atoms_spec (ws := wsX11_dual) B.pre
  have hown : s.vm.findClass RX11 = some m.cls := findClass_of_methodNamed B.named
  have hlocks := B.notSynchronized
  subst hsz
  have hD := hD0.self (sz := s.heap.size)
  exact wk_X11_dual h_t B_t t_thrown t_n t_modulus t_rows t_strands t_letters t_listedMany t_listN t_listWhat t_g t_table t_twists B.exec B.bytes hml hown hts hK hE (fun q h => Or.inr h) (Nat.le_refl _) (Nat.le_refl _) (fun r t_thrown t_g t_table t_twists H locs ls pc hP hD hS hz hk hd => W.zret (v := r) B.exec B.bytes B.returns hz.n (fun t ht hW => ⟨⟨r, (t_thrown, t_g, t_table, t_twists), rfl, hk, by rw [ht]; exact hP, va_K.moved hW.alike hK, hD⟩, hS.F ht⟩) hS.2.2 hd) hP hD h

abbrev w_X11_becomes (Y : Nat → ClassId) (h_t : Nat) (B_t : Nat → Nat) (t_thrown : Int32) (t_n : Int32) (t_modulus : Int32) (t_rows : Int32) (t_strands : Int32) (t_letters : Int32) (t_listedMany : Int32) (t_listN : Int32) (t_listWhat : Int32) (t_made : Nat → Int32) (t_table : Nat → Int32) (t_twists : Nat → Int32) : va_W := [(h_t, .inr (10, [.int t_thrown, .int t_n, .ref (B_t 2), .int t_modulus, .ref (B_t 4), .ref (B_t 5), .ref (B_t 6), .ref (B_t 7), .ref (B_t 8), .ref (B_t 9), .ref (B_t 10), .int t_rows, .ref (B_t 12), .ref (B_t 13), .ref (B_t 14), .ref (B_t 15), .ref (B_t 16), .ref (B_t 17), .ref (B_t 18), .ref (B_t 19), .int t_strands, .int t_letters, .ref (B_t 22), .ref (B_t 23), .ref (B_t 24), .ref (B_t 25), .int t_listedMany, .int t_listN, .int t_listWhat])), ((B_t 17), .inl (Y 0, 64, .inl t_made)), ((B_t 2), .inl (Y 0, 64, .inl t_table)), ((B_t 4), .inl (Y 0, 64, .inl t_twists))]

set_option maxHeartbeats 20000000 in
set_option maxRecDepth 100000 in
theorem wk_X11_becomes {p : Program} {l : Launch} {e : Env} {R : Room} {s : State} {m : MethodId} {args : Array Value} {below : List Frame} {meth : Method} {c : Code} {Q : State → Prop} {G : va_G} {Y : Nat → ClassId} {tF : Nat} {A : Nat → Prop} (h_t : Nat) (B_t : Nat → Nat) (t_thrown : Int32) (t_n : Int32) (t_modulus : Int32) (t_rows : Int32) (t_strands : Int32) (t_letters : Int32) (t_listedMany : Int32) (t_listN : Int32) (t_listWhat : Int32) (t_made : Nat → Int32) (t_table : Nat → Int32) (t_twists : Nat → Int32) (x1 : Int32) {K : Int32 → (Nat → Int32) → (Nat → Int32) → Prop} (hx : p.tables.exec = Jvm.exec) (hb : c.code = cX11_becomes) (hml : c.maxLocals = 3) (hown : s.vm.findClass RX11 = some m.cls) (hts : ∀ w ∈ wsX11_becomes, w.before args s = true) (hK : va_K G vwCl (tyL Y) s) (hE : Ev A tF s) (hA : ∀ q, s.heap.size ≤ q → A q) (hRf : 1 ≤ R.frames) (hRl : 21 ≤ R.locals) (hret : ∀ (t_n : Int32) (t_table : Nat → Int32) (t_twists : Nat → Int32) (H : Heap) (locs : List Loc) (ls : Array Slot) (pc : Nat), va_P G vwCl (w_X11_becomes Y h_t B_t t_thrown t_n t_modulus t_rows t_strands t_letters t_listedMany t_listN t_listWhat t_made t_table t_twists) H → va_D A (w_X11_becomes Y h_t B_t t_thrown t_n t_modulus t_rows t_strands t_letters t_listedMany t_listN t_listWhat t_made t_table t_twists) → va_S A s.heap H locs → K t_n t_table t_twists → decode cX11_becomes pc = .ok (.return_, 1) → W p l e R s m args below meth c H locs 0 0 Q (F0 m pc ls [])) (hP : va_P G vwCl (w_X11_becomes Y h_t B_t t_thrown t_n t_modulus t_rows t_strands t_letters t_listedMany t_listN t_listWhat t_made t_table t_twists) s.heap) (hD : va_D A (w_X11_becomes Y h_t B_t t_thrown t_n t_modulus t_rows t_strands t_letters t_listedMany t_listN t_listWhat t_made t_table t_twists)) (h : pX11_becomes t_n t_made t_table t_twists x1 K) : W p l e R s m args below meth c s.heap [] 0 0 Q (entryFrame m ([.ref h_t, .int x1] : List Value).toArray 3) := by
  have inX11 : ∀ w ∈ u_ws RX11 TX11 29, w ∈ wsX11_becomes := by decide +kernel
  have hf13 := hts (.fieldLink RX11 13 "RackBenchModel" "table" "[I") (by decide +kernel)
  have hf58 := hts (.fieldLink RX11 58 "RackBenchModel" "made" "[I") (by decide +kernel)
  have hf9 := hts (.fieldLink RX11 9 "RackBenchModel" "n" "I") (by decide +kernel)
  have hl := lv_entry ([.ref h_t, .int x1]) (n := 3) (Nat.le_of_ble_eq_true rfl)
  rw [lg_entry_eq]
  generalize (lg_sl ([.ref h_t, .int x1]) ++ List.replicate (3 - (lg_sl ([.ref h_t, .int x1])).length) Slot.unset).toArray = ls at hl ⊢
  have hl : lv_has ls 3 [(0, .ref h_t), (1, .int x1)] := hl
  generalize hH0 : s.heap = H at hP ⊢
  have hS : va_S A s.heap H [] := by rw [← hH0]; exact va_S.rf
  clear hH0
  generalize ([] : List Loc) = locs at hS ⊢
  refine lv_aload_n hx hb dX11_becomes_0 rfl (lv_at hl 0 rfl) ?_
  refine lv_iload_n hx hb dX11_becomes_1 rfl (lv_at hl 1 rfl) ?_
  refine va_put (D := G) (ci := 10) (v := .int x1) (ty := .int) (C := RX11) (T := TX11) (N := 29) hx hb hts inX11 tyX11 tyX11_ok nmX11 hown hK hP hD hS 0 rfl rfl 1 (by decide) hf9 (fun _ h9 => h9) rfl (by decide +kernel) rfl rfl (Nat.le_of_ble_eq_true rfl) dX11_becomes_2 (fun H locs hP hD hS => ?_)
  have hP : va_P G vwCl (w_X11_becomes Y h_t B_t t_thrown x1 t_modulus t_rows t_strands t_letters t_listedMany t_listN t_listWhat t_made t_table t_twists) H := hP
  have hD : va_D A (w_X11_becomes Y h_t B_t t_thrown x1 t_modulus t_rows t_strands t_letters t_listedMany t_listN t_listWhat t_made t_table t_twists) := hD
  refine lv_aload_n hx hb dX11_becomes_5 rfl (lv_at hl 0 rfl) ?_
  refine mc_vV ⟨hx, hb, hml, hown, hts⟩ hK hE hA hP hD hS (c_X11_straight l G Y tF H.size h_t B_t t_thrown x1 t_modulus t_rows t_strands t_letters t_listedMany t_listN t_listWhat t_twists h) (cwV 0 hts gX11_becomes_X11_straight rfl rfl rfl (by decide +kernel) ⟨Nat.le_trans (by decide) hRf, Nat.le_trans (by decide) hRl⟩) (fun u => (w_X11_becomes Y h_t B_t t_thrown x1 t_modulus t_rows t_strands t_letters t_listedMany t_listN t_listWhat t_made t_table u)) [0, 3] [1, 2] [2, 0, 1, 3] rfl rfl rfl rfl (by decide) (fun _ => rfl) rfl 0 10 rfl rfl rfl rfl hl.1 rfl (Nat.le_of_ble_eq_true rfl) dX11_becomes_6 (fun u H locs h hP hD hS => ?_)
  obtain ⟨t_twists_6, rfl⟩ : ∃ z, z = u := ⟨_, rfl⟩
  try dsimp only at h
  have hP : va_P G vwCl (w_X11_becomes Y h_t B_t t_thrown x1 t_modulus t_rows t_strands t_letters t_listedMany t_listN t_listWhat t_made t_table t_twists_6) H := hP
  have hD : va_D A (w_X11_becomes Y h_t B_t t_thrown x1 t_modulus t_rows t_strands t_letters t_listedMany t_listN t_listWhat t_made t_table t_twists_6) := hD
  refine lv_iconst (v := 0) hx hb dX11_becomes_9 (by decide) ?_
  refine lv_istore_n (lv' := [(2, .int (0 : Int32)), (0, .ref h_t), (1, .int x1)]) hx hb dX11_becomes_10 rfl hl (by decide) rfl (fun ls hl => ?_)
  obtain ⟨I11, m11, hI11, hB11⟩ := h
  have L11 : ∀ (t_n : Int32) (t_twists : Nat → Int32) (I11 : Int32 → (Nat → Int32) → Prop) (m11 : Int32 → (Nat → Int32) → Nat), (∀ (x2 : Int32) (t_table : Nat → Int32), I11 x2 t_table → pX11_becomes_11 t_made K t_n t_twists x2 t_table (fun x2' t_table' => I11 x2' t_table' ∧ m11 x2' t_table' < m11 x2 t_table)) → ∀ (n : Nat) (x2 : Int32) (t_table : Nat → Int32) (H : Heap) (locs : List Loc) (ls : Array Slot), I11 x2 t_table → m11 x2 t_table < n → va_P G vwCl (w_X11_becomes Y h_t B_t t_thrown t_n t_modulus t_rows t_strands t_letters t_listedMany t_listN t_listWhat t_made t_table t_twists) H → va_D A (w_X11_becomes Y h_t B_t t_thrown t_n t_modulus t_rows t_strands t_letters t_listedMany t_listN t_listWhat t_made t_table t_twists) → va_S A s.heap H locs → lv_has ls 3 [(0, .ref h_t), (2, .int x2)] → W p l e R s m args below meth c H locs 0 0 Q (F0 m 11 ls []) := by
    intro t_n t_twists I11 m11 hB11 n
    induction n with
    | zero => intro x2 t_table H locs ls _ hm; exact absurd hm (Nat.not_lt_zero _)
    | succ n ih =>
      intro x2 t_table H locs ls hI hm hP hD hS hl
      obtain ⟨R11, h, rec11⟩ : ∃ R11 : Int32 → (Nat → Int32) → Prop, pX11_becomes_11 t_made K t_n t_twists x2 t_table R11 ∧ ∀ (x2 : Int32) (t_table : Nat → Int32) (H : Heap) (locs : List Loc) (ls : Array Slot), R11 x2 t_table → va_P G vwCl (w_X11_becomes Y h_t B_t t_thrown t_n t_modulus t_rows t_strands t_letters t_listedMany t_listN t_listWhat t_made t_table t_twists) H → va_D A (w_X11_becomes Y h_t B_t t_thrown t_n t_modulus t_rows t_strands t_letters t_listedMany t_listN t_listWhat t_made t_table t_twists) → va_S A s.heap H locs → lv_has ls 3 [(0, .ref h_t), (2, .int x2)] → W p l e R s m args below meth c H locs 0 0 Q (F0 m 11 ls []) := ⟨_, hB11 x2 t_table hI, fun x2 t_table H locs ls hh hP hD hS hl => ih x2 t_table H locs ls hh.1 (Nat.lt_of_lt_of_le hh.2 (Nat.le_of_lt_succ hm)) hP hD hS hl⟩
      refine lv_iload_n hx hb dX11_becomes_11 rfl (lv_at hl 1 rfl) ?_
      refine lv_bipush (v := 64) hx hb dX11_becomes_12 (by decide) ?_
      obtain ⟨ht, hf⟩ := h
      refine lv_icmp_ge (tgt := 35) hx hb dX11_becomes_14 (by decide) (fun c9 => ?_) (fun c9 => ?_)
      · have h := ht c9
        exact hret t_n t_table t_twists H locs ls _ hP hD hS h dX11_becomes_35
      · have h := hf c9
        refine lv_aload_n hx hb dX11_becomes_17 rfl (lv_at hl 0 rfl) ?_
        refine va_get (D := G) (ci := 10) (v := .ref (B_t 2)) (C := RX11) (T := TX11) (N := 29) hx hb hts inX11 hown hK hP 0 rfl rfl 2 (by decide) hf13 (fun _ h9 => h9) rfl dX11_becomes_18 ?_
        refine lv_iload_n hx hb dX11_becomes_21 rfl (lv_at hl 1 rfl) ?_
        refine lv_aload_n hx hb dX11_becomes_22 rfl (lv_at hl 0 rfl) ?_
        refine va_get (D := G) (ci := 10) (v := .ref (B_t 17)) (C := RX11) (T := TX11) (N := 29) hx hb hts inX11 hown hK hP 0 rfl rfl 17 (by decide) hf58 (fun _ h9 => h9) rfl dX11_becomes_23 ?_
        refine lv_iload_n hx hb dX11_becomes_26 rfl (lv_at hl 1 rfl) ?_
        obtain ⟨hin, h⟩ := h
        refine va_iald hx hb hK hP 1 0 rfl rfl hin dX11_becomes_27 ?_
        obtain ⟨hin, h⟩ := h
        refine va_iast hx hb hK hP hD hS 2 0 rfl rfl hin dX11_becomes_28 (fun H locs hP hD hS => ?_)
        have hP : va_P G vwCl (w_X11_becomes Y h_t B_t t_thrown t_n t_modulus t_rows t_strands t_letters t_listedMany t_listN t_listWhat t_made (upd t_table (Int32.toNatClampNeg x2) (t_made (Int32.toNatClampNeg x2))) t_twists) H := hP
        have hD : va_D A (w_X11_becomes Y h_t B_t t_thrown t_n t_modulus t_rows t_strands t_letters t_listedMany t_listN t_listWhat t_made (upd t_table (Int32.toNatClampNeg x2) (t_made (Int32.toNatClampNeg x2))) t_twists) := hD
        refine lv_iinc (v := (x2 + 1)) (lv' := [(2, .int (x2 + 1)), (0, .ref h_t)]) hx hb dX11_becomes_29 hl (k := 1) rfl rfl (by decide) rfl (fun ls hl => ?_)
        refine lv_goto (tgt := 11) hx hb dX11_becomes_32 (by decide) ?_
        exact rec11 (x2 + 1) (upd t_table (Int32.toNatClampNeg x2) (t_made (Int32.toNatClampNeg x2))) H locs ls h hP hD hS (lv_sub hl [1, 0] rfl)
  exact L11 x1 t_twists_6 I11 m11 hB11 _ (0 : Int32) t_table H locs ls hI11 (Nat.lt_succ_self _) hP hD hS (lv_sub hl [1, 0] rfl)

set_option maxHeartbeats 20000000 in
set_option maxRecDepth 100000 in
theorem c_X11_becomes (l : Launch) (G : va_G) (Y : Nat → ClassId) (tF sz : Nat) (h_t : Nat) (B_t : Nat → Nat) (t_thrown : Int32) (t_n : Int32) (t_modulus : Int32) (t_rows : Int32) (t_strands : Int32) (t_letters : Int32) (t_listedMany : Int32) (t_listN : Int32) (t_listWhat : Int32) (t_made : Nat → Int32) (t_table : Nat → Int32) (t_twists : Nat → Int32) (x1 : Int32) {K : Int32 → (Nat → Int32) → (Nat → Int32) → Prop} (h : pX11_becomes t_n t_made t_table t_twists x1 K) : Met l yX11_becomes wsX11_becomes ({ frames := 1, cells := 0, slots := 0, locals := 21 }) (PcM G Y tF sz (w_X11_becomes Y h_t B_t t_thrown t_n t_modulus t_rows t_strands t_letters t_listedMany t_listN t_listWhat t_made t_table t_twists) [.ref h_t, .int x1]) (va_Qv (fun u : Int32 × (Nat → Int32) × (Nat → Int32) => K u.1 u.2.1 u.2.2) (fun u t => BM G Y (va_A (w_X11_becomes Y h_t B_t t_thrown t_n t_modulus t_rows t_strands t_letters t_listedMany t_listN t_listWhat t_made t_table t_twists) sz) (w_X11_becomes Y h_t B_t t_thrown u.1 t_modulus t_rows t_strands t_letters t_listedMany t_listN t_listWhat t_made u.2.1 u.2.2) t) (va_A (w_X11_becomes Y h_t B_t t_thrown t_n t_modulus t_rows t_strands t_letters t_listedMany t_listN t_listWhat t_made t_table t_twists) sz)) 0 0 (va_A (w_X11_becomes Y h_t B_t t_thrown t_n t_modulus t_rows t_strands t_letters t_listedMany t_listN t_listWhat t_made t_table t_twists) sz) := by
  refine Met.ofW (cc := cX11_becomes) (maxL := 3) (ret := none) (by decide +kernel) rfl ?_
  intro p e s m args below meth c s₁ B hml hv
  obtain ⟨rfl, hsz, hP, hK, hD0, hE⟩ := hv
  have hts := atoms_spec (ws := wsX11_becomes) B.pre
  have hown : s.vm.findClass RX11 = some m.cls := findClass_of_methodNamed B.named
  have hlocks := B.notSynchronized
  subst hsz
  have hD := hD0.self (sz := s.heap.size)
  exact wk_X11_becomes h_t B_t t_thrown t_n t_modulus t_rows t_strands t_letters t_listedMany t_listN t_listWhat t_made t_table t_twists x1 B.exec B.bytes hml hown hts hK hE (fun q h => Or.inr h) (Nat.le_refl _) (Nat.le_refl _) (fun t_n t_table t_twists H locs ls pc hP hD hS hk hd => W.vret B.exec B.bytes B.returns (fun t ht hW => ⟨⟨(t_n, t_table, t_twists), rfl, hk, by rw [ht]; exact hP, va_K.moved hW.alike hK, hD⟩, hS.F ht⟩) hS.2.2 hd) hP hD h
