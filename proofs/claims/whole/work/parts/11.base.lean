abbrev w_J9_floorMod_7cf53 (Y : Nat → ClassId) : va_W := []

set_option maxHeartbeats 4000000 in
set_option maxRecDepth 100000 in
theorem wk_J9_floorMod_7cf53 {p : Program} {l : Launch} {e : Env} {R : Room} {s : State} {m : MethodId} {args : Array Value} {below : List Frame} {meth : Method} {c : Code} {Q : State → Prop} {G : va_G} {Y : Nat → ClassId} {tF : Nat} {A : Nat → Prop} (x0 : Int32) (x1 : Int32) {K : Int32 → Prop} (hx : p.tables.exec = Jvm.exec) (hb : c.code = cJ9_floorMod_7cf53) (hml : c.maxLocals = 3) (hown : s.vm.findClass RJ9 = some m.cls) (hts : ∀ w ∈ wsJ9_floorMod_7cf53, w.before args s = true) (hK : va_K G vwCl (tyL Y) s) (hE : Ev A tF s) (hA : ∀ q, s.heap.size ≤ q → A q) (hRf : 0 ≤ R.frames) (hRl : 0 ≤ R.locals) (hret : ∀ (r : Int32)  (H : Heap) (locs : List Loc) (ls : Array Slot) (pc : Nat), va_P G vwCl (w_J9_floorMod_7cf53 Y) H → va_D A (w_J9_floorMod_7cf53 Y) → va_S A s.heap H locs → K r → decode cJ9_floorMod_7cf53 pc = .ok (.ireturn, 1) → W p l e R s m args below meth c H locs 0 0 Q (F0 m pc ls [.int r])) (hP : va_P G vwCl (w_J9_floorMod_7cf53 Y) s.heap) (hD : va_D A (w_J9_floorMod_7cf53 Y)) (h : pJ9_floorMod_7cf53 x0 x1 K) : W p l e R s m args below meth c s.heap [] 0 0 Q (entryFrame m ([.int x0, .int x1] : List Value).toArray 3) := by
  have hl := lv_entry ([.int x0, .int x1]) (n := 3) (Nat.le_of_ble_eq_true rfl)
  rw [lg_entry_eq]
  generalize (lg_sl ([.int x0, .int x1]) ++ List.replicate (3 - (lg_sl ([.int x0, .int x1])).length) Slot.unset).toArray = ls at hl ⊢
  have hl : lv_has ls 3 [(0, .int x0), (1, .int x1)] := hl
  generalize hH0 : s.heap = H at hP ⊢
  have hS : va_S A s.heap H [] := by rw [← hH0]; exact va_S.rf
  clear hH0
  generalize ([] : List Loc) = locs at hS ⊢
  refine lv_iload_n hx hb dJ9_floorMod_7cf53_0 rfl (lv_at hl 0 rfl) ?_
  refine lv_iload_n hx hb dJ9_floorMod_7cf53_1 rfl (lv_at hl 1 rfl) ?_
  obtain ⟨hne, h⟩ := h
  refine lv_irem hx hb dJ9_floorMod_7cf53_2 hne ?_
  refine lv_istore_n (lv' := [(2, .int (x0 - x0 / x1 * x1)), (0, .int x0), (1, .int x1)]) hx hb dJ9_floorMod_7cf53_3 rfl hl (by decide) rfl (fun ls hl => ?_)
  refine lv_iload_n hx hb dJ9_floorMod_7cf53_4 rfl (lv_at hl 1 rfl) ?_
  refine lv_iload_n hx hb dJ9_floorMod_7cf53_5 rfl (lv_at hl 2 rfl) ?_
  refine lv_ixor hx hb dJ9_floorMod_7cf53_6 ?_
  obtain ⟨ht, hf⟩ := h
  refine lv_if_ge (tgt := 18) hx hb dJ9_floorMod_7cf53_7 (by decide) (fun c9 => ?_) (fun c9 => ?_)
  · have h := ht c9
    refine lv_iload_n hx hb dJ9_floorMod_7cf53_18 rfl (lv_at hl 0 rfl) ?_
    exact hret (x0 - x0 / x1 * x1)  H locs ls _ hP hD hS h dJ9_floorMod_7cf53_19
  · have h := hf c9
    refine lv_iload_n hx hb dJ9_floorMod_7cf53_10 rfl (lv_at hl 0 rfl) ?_
    obtain ⟨ht, hf⟩ := h
    refine lv_if_eq (tgt := 18) hx hb dJ9_floorMod_7cf53_11 (by decide) (fun c9 => ?_) (fun c9 => ?_)
    · have h := ht c9
      refine lv_iload_n hx hb dJ9_floorMod_7cf53_18 rfl (lv_at hl 0 rfl) ?_
      exact hret (x0 - x0 / x1 * x1)  H locs ls _ hP hD hS h dJ9_floorMod_7cf53_19
    · have h := hf c9
      refine lv_iload_n hx hb dJ9_floorMod_7cf53_14 rfl (lv_at hl 0 rfl) ?_
      refine lv_iload_n hx hb dJ9_floorMod_7cf53_15 rfl (lv_at hl 2 rfl) ?_
      refine lv_iadd hx hb dJ9_floorMod_7cf53_16 ?_
      exact hret ((x0 - x0 / x1 * x1) + x1)  H locs ls _ hP hD hS h dJ9_floorMod_7cf53_17

set_option maxHeartbeats 4000000 in
set_option maxRecDepth 100000 in
theorem c_J9_floorMod_7cf53 (l : Launch) (G : va_G) (Y : Nat → ClassId) (tF sz : Nat) (x0 : Int32) (x1 : Int32) {K : Int32 → Prop} (h : pJ9_floorMod_7cf53 x0 x1 K) : Met l yJ9_floorMod_7cf53 wsJ9_floorMod_7cf53 ({ frames := 0, cells := 0, slots := 0, locals := 0 }) (PcM G Y tF sz (w_J9_floorMod_7cf53 Y) [.int x0, .int x1]) (va_Qi (fun (r : Int32) (u : Unit) => K r ) (fun u t => BM G Y (va_A (w_J9_floorMod_7cf53 Y) sz) (w_J9_floorMod_7cf53 Y) t) (va_A (w_J9_floorMod_7cf53 Y) sz)) 0 0 (va_A (w_J9_floorMod_7cf53 Y) sz) := by
  refine Met_ofWF (cc := cJ9_floorMod_7cf53) (maxL := 3) (ret := (some .int)) (by decide +kernel) rfl ?_
  intro p e s m args below meth c s₁ B hml hv
  obtain ⟨rfl, hsz, hP, hK, hD0, hE⟩ := hv
  have hts := atoms_spec (ws := wsJ9_floorMod_7cf53) B.pre
  have hown : s.vm.findClass RJ9 = some m.cls := findClass_of_methodNamed B.named
  have hlocks := B.notSynchronized
  subst hsz
  have hD := hD0.self (sz := s.heap.size)
  exact wk_J9_floorMod_7cf53 x0 x1 B.exec B.bytes hml hown hts hK hE (fun q h => Or.inr h) (Nat.le_refl _) (Nat.le_refl _) (fun r  H locs ls pc hP hD hS hk hd => W.iret (v := r) B.exec B.bytes B.returns (fun t ht hW => ⟨⟨r, (), rfl, hk, by rw [ht]; exact hP, va_K.moved hW.alike hK, hD⟩, hS.F ht⟩) hS.2.2 hd) hP hD h

abbrev w_J7_fill_53178 (Y : Nat → ClassId) (h_p0 : Nat) (N_p0 : Nat) (p0 : Nat → Int32) : va_W := [(h_p0, .inl (Y 0, N_p0, .inl p0))]

set_option maxHeartbeats 4000000 in
set_option maxRecDepth 100000 in
theorem wk_J7_fill_53178 {p : Program} {l : Launch} {e : Env} {R : Room} {s : State} {m : MethodId} {args : Array Value} {below : List Frame} {meth : Method} {c : Code} {Q : State → Prop} {G : va_G} {Y : Nat → ClassId} {tF : Nat} {A : Nat → Prop} (h_p0 : Nat) (N_p0 : Nat) (p0 : Nat → Int32) (x1 : Int32) {K : (Nat → Int32) → Prop} (hx : p.tables.exec = Jvm.exec) (hb : c.code = cJ7_fill_53178) (hml : c.maxLocals = 4) (hown : s.vm.findClass RJ7 = some m.cls) (hts : ∀ w ∈ wsJ7_fill_53178, w.before args s = true) (hK : va_K G vwCl (tyL Y) s) (hE : Ev A tF s) (hA : ∀ q, s.heap.size ≤ q → A q) (hRf : 0 ≤ R.frames) (hRl : 0 ≤ R.locals) (hret : ∀ (p0 : Nat → Int32) (H : Heap) (locs : List Loc) (ls : Array Slot) (pc : Nat), va_P G vwCl (w_J7_fill_53178 Y h_p0 N_p0 p0) H → va_D A (w_J7_fill_53178 Y h_p0 N_p0 p0) → va_S A s.heap H locs → K p0 → decode cJ7_fill_53178 pc = .ok (.return_, 1) → W p l e R s m args below meth c H locs 0 0 Q (F0 m pc ls [])) (hP : va_P G vwCl (w_J7_fill_53178 Y h_p0 N_p0 p0) s.heap) (hD : va_D A (w_J7_fill_53178 Y h_p0 N_p0 p0)) (h : pJ7_fill_53178 N_p0 p0 x1 K) : W p l e R s m args below meth c s.heap [] 0 0 Q (entryFrame m ([.ref h_p0, .int x1] : List Value).toArray 4) := by
  have hl := lv_entry ([.ref h_p0, .int x1]) (n := 4) (Nat.le_of_ble_eq_true rfl)
  rw [lg_entry_eq]
  generalize (lg_sl ([.ref h_p0, .int x1]) ++ List.replicate (4 - (lg_sl ([.ref h_p0, .int x1])).length) Slot.unset).toArray = ls at hl ⊢
  have hl : lv_has ls 4 [(0, .ref h_p0), (1, .int x1)] := hl
  generalize hH0 : s.heap = H at hP ⊢
  have hS : va_S A s.heap H [] := by rw [← hH0]; exact va_S.rf
  clear hH0
  generalize ([] : List Loc) = locs at hS ⊢
  refine lv_iconst (v := 0) hx hb dJ7_fill_53178_0 (by decide) ?_
  refine lv_istore_n (lv' := [(2, .int (0 : Int32)), (0, .ref h_p0), (1, .int x1)]) hx hb dJ7_fill_53178_1 rfl hl (by decide) rfl (fun ls hl => ?_)
  refine lv_aload_n hx hb dJ7_fill_53178_2 rfl (lv_at hl 1 rfl) ?_
  refine va_alen hx hb hK hP 0 0 rfl rfl rfl dJ7_fill_53178_3 ?_
  refine lv_istore_n (lv' := [(3, .int (Int32.ofNat N_p0)), (2, .int (0 : Int32)), (0, .ref h_p0), (1, .int x1)]) hx hb dJ7_fill_53178_4 rfl hl (by decide) rfl (fun ls hl => ?_)
  obtain ⟨I5, m5, hI5, hB5⟩ := h
  have L5 : ∀ (x1 : Int32) (x3 : Int32) (I5 : Int32 → (Nat → Int32) → Prop) (m5 : Int32 → (Nat → Int32) → Nat), (∀ (x2 : Int32) (p0 : Nat → Int32), I5 x2 p0 → pJ7_fill_53178_5 N_p0 K x1 x3 x2 p0 (fun x2' p0' => I5 x2' p0' ∧ m5 x2' p0' < m5 x2 p0)) → ∀ (n : Nat) (x2 : Int32) (p0 : Nat → Int32) (H : Heap) (locs : List Loc) (ls : Array Slot), I5 x2 p0 → m5 x2 p0 < n → va_P G vwCl (w_J7_fill_53178 Y h_p0 N_p0 p0) H → va_D A (w_J7_fill_53178 Y h_p0 N_p0 p0) → va_S A s.heap H locs → lv_has ls 4 [(0, .ref h_p0), (1, .int x1), (2, .int x2), (3, .int x3)] → W p l e R s m args below meth c H locs 0 0 Q (F0 m 5 ls []) := by
    intro x1 x3 I5 m5 hB5 n
    induction n with
    | zero => intro x2 p0 H locs ls _ hm; exact absurd hm (Nat.not_lt_zero _)
    | succ n ih =>
      intro x2 p0 H locs ls hI hm hP hD hS hl
      obtain ⟨R5, h, rec5⟩ : ∃ R5 : Int32 → (Nat → Int32) → Prop, pJ7_fill_53178_5 N_p0 K x1 x3 x2 p0 R5 ∧ ∀ (x2 : Int32) (p0 : Nat → Int32) (H : Heap) (locs : List Loc) (ls : Array Slot), R5 x2 p0 → va_P G vwCl (w_J7_fill_53178 Y h_p0 N_p0 p0) H → va_D A (w_J7_fill_53178 Y h_p0 N_p0 p0) → va_S A s.heap H locs → lv_has ls 4 [(0, .ref h_p0), (1, .int x1), (2, .int x2), (3, .int x3)] → W p l e R s m args below meth c H locs 0 0 Q (F0 m 5 ls []) := ⟨_, hB5 x2 p0 hI, fun x2 p0 H locs ls hh hP hD hS hl => ih x2 p0 H locs ls hh.1 (Nat.lt_of_lt_of_le hh.2 (Nat.le_of_lt_succ hm)) hP hD hS hl⟩
      refine lv_iload_n hx hb dJ7_fill_53178_5 rfl (lv_at hl 2 rfl) ?_
      refine lv_iload_n hx hb dJ7_fill_53178_6 rfl (lv_at hl 3 rfl) ?_
      obtain ⟨ht, hf⟩ := h
      refine lv_icmp_ge (tgt := 20) hx hb dJ7_fill_53178_7 (by decide) (fun c9 => ?_) (fun c9 => ?_)
      · have h := ht c9
        exact hret p0 H locs ls _ hP hD hS h dJ7_fill_53178_20
      · have h := hf c9
        refine lv_aload_n hx hb dJ7_fill_53178_10 rfl (lv_at hl 0 rfl) ?_
        refine lv_iload_n hx hb dJ7_fill_53178_11 rfl (lv_at hl 2 rfl) ?_
        refine lv_iload_n hx hb dJ7_fill_53178_12 rfl (lv_at hl 1 rfl) ?_
        obtain ⟨hin, h⟩ := h
        refine va_iast hx hb hK hP hD hS 0 0 rfl rfl hin dJ7_fill_53178_13 (fun H locs hP hD hS => ?_)
        have hP : va_P G vwCl (w_J7_fill_53178 Y h_p0 N_p0 (upd p0 (Int32.toNatClampNeg x2) x1)) H := hP
        have hD : va_D A (w_J7_fill_53178 Y h_p0 N_p0 (upd p0 (Int32.toNatClampNeg x2) x1)) := hD
        refine lv_iinc (v := (x2 + 1)) (lv' := [(2, .int (x2 + 1)), (0, .ref h_p0), (1, .int x1), (3, .int x3)]) hx hb dJ7_fill_53178_14 hl (k := 2) rfl rfl (by decide) rfl (fun ls hl => ?_)
        refine lv_goto (tgt := 5) hx hb dJ7_fill_53178_17 (by decide) ?_
        exact rec5 (x2 + 1) (upd p0 (Int32.toNatClampNeg x2) x1) H locs ls h hP hD hS (lv_sub hl [1, 2, 0, 3] rfl)
  exact L5 x1 (Int32.ofNat N_p0) I5 m5 hB5 _ (0 : Int32) p0 H locs ls hI5 (Nat.lt_succ_self _) hP hD hS (lv_sub hl [2, 3, 1, 0] rfl)

set_option maxHeartbeats 4000000 in
set_option maxRecDepth 100000 in
theorem c_J7_fill_53178 (l : Launch) (G : va_G) (Y : Nat → ClassId) (tF sz : Nat) (h_p0 : Nat) (N_p0 : Nat) (p0 : Nat → Int32) (x1 : Int32) {K : (Nat → Int32) → Prop} (h : pJ7_fill_53178 N_p0 p0 x1 K) : Met l yJ7_fill_53178 wsJ7_fill_53178 ({ frames := 0, cells := 0, slots := 0, locals := 0 }) (PcM G Y tF sz (w_J7_fill_53178 Y h_p0 N_p0 p0) [.ref h_p0, .int x1]) (va_Qv (fun u : (Nat → Int32) => K u) (fun u t => BM G Y (va_A (w_J7_fill_53178 Y h_p0 N_p0 p0) sz) (w_J7_fill_53178 Y h_p0 N_p0 u) t) (va_A (w_J7_fill_53178 Y h_p0 N_p0 p0) sz)) 0 0 (va_A (w_J7_fill_53178 Y h_p0 N_p0 p0) sz) := by
  refine Met_ofWF (cc := cJ7_fill_53178) (maxL := 4) (ret := none) (by decide +kernel) rfl ?_
  intro p e s m args below meth c s₁ B hml hv
  obtain ⟨rfl, hsz, hP, hK, hD0, hE⟩ := hv
  have hts := atoms_spec (ws := wsJ7_fill_53178) B.pre
  have hown : s.vm.findClass RJ7 = some m.cls := findClass_of_methodNamed B.named
  have hlocks := B.notSynchronized
  subst hsz
  have hD := hD0.self (sz := s.heap.size)
  exact wk_J7_fill_53178 h_p0 N_p0 p0 x1 B.exec B.bytes hml hown hts hK hE (fun q h => Or.inr h) (Nat.le_refl _) (Nat.le_refl _) (fun p0 H locs ls pc hP hD hS hk hd => W.vret B.exec B.bytes B.returns (fun t ht hW => ⟨⟨p0, rfl, hk, by rw [ht]; exact hP, va_K.moved hW.alike hK, hD⟩, hS.F ht⟩) hS.2.2 hd) hP hD h

abbrev w_X1_split (Y : Nat → ClassId) (h_t : Nat) (B_t : Nat → Nat) (t_n : Int32) (t_leader : Nat → Int32) : va_W := [(h_t, .inr (1, [.ref (B_t 0), .ref (B_t 1), .int t_n])), ((B_t 0), .inl (Y 0, 8, .inl t_leader))]

set_option maxHeartbeats 4000000 in
set_option maxRecDepth 100000 in
theorem wk_X1_split {p : Program} {l : Launch} {e : Env} {R : Room} {s : State} {m : MethodId} {args : Array Value} {below : List Frame} {meth : Method} {c : Code} {Q : State → Prop} {G : va_G} {Y : Nat → ClassId} {tF : Nat} {A : Nat → Prop} (h_t : Nat) (B_t : Nat → Nat) (t_n : Int32) (t_leader : Nat → Int32) (x1 : Int32) {K : Int32 → (Nat → Int32) → Prop} (hx : p.tables.exec = Jvm.exec) (hb : c.code = cX1_split) (hml : c.maxLocals = 3) (hown : s.vm.findClass RX1 = some m.cls) (hts : ∀ w ∈ wsX1_split, w.before args s = true) (hK : va_K G vwCl (tyL Y) s) (hE : Ev A tF s) (hA : ∀ q, s.heap.size ≤ q → A q) (hRf : 0 ≤ R.frames) (hRl : 0 ≤ R.locals) (hret : ∀ (t_n : Int32) (t_leader : Nat → Int32) (H : Heap) (locs : List Loc) (ls : Array Slot) (pc : Nat), va_P G vwCl (w_X1_split Y h_t B_t t_n t_leader) H → va_D A (w_X1_split Y h_t B_t t_n t_leader) → va_S A s.heap H locs → K t_n t_leader → decode cX1_split pc = .ok (.return_, 1) → W p l e R s m args below meth c H locs 0 0 Q (F0 m pc ls [])) (hP : va_P G vwCl (w_X1_split Y h_t B_t t_n t_leader) s.heap) (hD : va_D A (w_X1_split Y h_t B_t t_n t_leader)) (h : pX1_split t_n t_leader x1 K) : W p l e R s m args below meth c s.heap [] 0 0 Q (entryFrame m ([.ref h_t, .int x1] : List Value).toArray 3) := by
  have inX1 : ∀ w ∈ u_ws RX1 TX1 3, w ∈ wsX1_split := by decide +kernel
  have hf18 := hts (.fieldLink RX1 18 "RackBench$Classes" "n" "I") (by decide +kernel)
  have hf9 := hts (.fieldLink RX1 9 "RackBench$Classes" "leader" "[I") (by decide +kernel)
  have hl := lv_entry ([.ref h_t, .int x1]) (n := 3) (Nat.le_of_ble_eq_true rfl)
  rw [lg_entry_eq]
  generalize (lg_sl ([.ref h_t, .int x1]) ++ List.replicate (3 - (lg_sl ([.ref h_t, .int x1])).length) Slot.unset).toArray = ls at hl ⊢
  have hl : lv_has ls 3 [(0, .ref h_t), (1, .int x1)] := hl
  generalize hH0 : s.heap = H at hP ⊢
  have hS : va_S A s.heap H [] := by rw [← hH0]; exact va_S.rf
  clear hH0
  generalize ([] : List Loc) = locs at hS ⊢
  refine lv_aload_n hx hb dX1_split_0 rfl (lv_at hl 0 rfl) ?_
  refine lv_iload_n hx hb dX1_split_1 rfl (lv_at hl 1 rfl) ?_
  refine va_put (D := G) (ci := 1) (v := .int x1) (ty := .int) (C := RX1) (T := TX1) (N := 3) hx hb hts inX1 tyX1 tyX1_ok nmX1 hown hK hP hD hS 0 rfl rfl 2 (by decide) hf18 (fun _ h9 => h9) rfl (by decide +kernel) rfl rfl (Nat.le_of_ble_eq_true rfl) dX1_split_2 (fun H locs hP hD hS => ?_)
  have hP : va_P G vwCl (w_X1_split Y h_t B_t x1 t_leader) H := hP
  have hD : va_D A (w_X1_split Y h_t B_t x1 t_leader) := hD
  refine lv_iconst (v := 0) hx hb dX1_split_5 (by decide) ?_
  refine lv_istore_n (lv' := [(2, .int (0 : Int32)), (0, .ref h_t), (1, .int x1)]) hx hb dX1_split_6 rfl hl (by decide) rfl (fun ls hl => ?_)
  obtain ⟨I7, m7, hI7, hB7⟩ := h
  have L7 : ∀ (t_n : Int32) (I7 : Int32 → (Nat → Int32) → Prop) (m7 : Int32 → (Nat → Int32) → Nat), (∀ (x2 : Int32) (t_leader : Nat → Int32), I7 x2 t_leader → pX1_split_7 K t_n x2 t_leader (fun x2' t_leader' => I7 x2' t_leader' ∧ m7 x2' t_leader' < m7 x2 t_leader)) → ∀ (n : Nat) (x2 : Int32) (t_leader : Nat → Int32) (H : Heap) (locs : List Loc) (ls : Array Slot), I7 x2 t_leader → m7 x2 t_leader < n → va_P G vwCl (w_X1_split Y h_t B_t t_n t_leader) H → va_D A (w_X1_split Y h_t B_t t_n t_leader) → va_S A s.heap H locs → lv_has ls 3 [(0, .ref h_t), (2, .int x2)] → W p l e R s m args below meth c H locs 0 0 Q (F0 m 7 ls []) := by
    intro t_n I7 m7 hB7 n
    induction n with
    | zero => intro x2 t_leader H locs ls _ hm; exact absurd hm (Nat.not_lt_zero _)
    | succ n ih =>
      intro x2 t_leader H locs ls hI hm hP hD hS hl
      obtain ⟨R7, h, rec7⟩ : ∃ R7 : Int32 → (Nat → Int32) → Prop, pX1_split_7 K t_n x2 t_leader R7 ∧ ∀ (x2 : Int32) (t_leader : Nat → Int32) (H : Heap) (locs : List Loc) (ls : Array Slot), R7 x2 t_leader → va_P G vwCl (w_X1_split Y h_t B_t t_n t_leader) H → va_D A (w_X1_split Y h_t B_t t_n t_leader) → va_S A s.heap H locs → lv_has ls 3 [(0, .ref h_t), (2, .int x2)] → W p l e R s m args below meth c H locs 0 0 Q (F0 m 7 ls []) := ⟨_, hB7 x2 t_leader hI, fun x2 t_leader H locs ls hh hP hD hS hl => ih x2 t_leader H locs ls hh.1 (Nat.lt_of_lt_of_le hh.2 (Nat.le_of_lt_succ hm)) hP hD hS hl⟩
      refine lv_iload_n hx hb dX1_split_7 rfl (lv_at hl 1 rfl) ?_
      refine lv_aload_n hx hb dX1_split_8 rfl (lv_at hl 0 rfl) ?_
      refine va_get (D := G) (ci := 1) (v := .int t_n) (C := RX1) (T := TX1) (N := 3) hx hb hts inX1 hown hK hP 0 rfl rfl 2 (by decide) hf18 (fun _ h9 => h9) rfl dX1_split_9 ?_
      obtain ⟨ht, hf⟩ := h
      refine lv_icmp_ge (tgt := 28) hx hb dX1_split_12 (by decide) (fun c9 => ?_) (fun c9 => ?_)
      · have h := ht c9
        exact hret t_n t_leader H locs ls _ hP hD hS h dX1_split_28
      · have h := hf c9
        refine lv_aload_n hx hb dX1_split_15 rfl (lv_at hl 0 rfl) ?_
        refine va_get (D := G) (ci := 1) (v := .ref (B_t 0)) (C := RX1) (T := TX1) (N := 3) hx hb hts inX1 hown hK hP 0 rfl rfl 0 (by decide) hf9 (fun _ h9 => h9) rfl dX1_split_16 ?_
        refine lv_iload_n hx hb dX1_split_19 rfl (lv_at hl 1 rfl) ?_
        refine lv_iload_n hx hb dX1_split_20 rfl (lv_at hl 1 rfl) ?_
        obtain ⟨hin, h⟩ := h
        refine va_iast hx hb hK hP hD hS 1 0 rfl rfl hin dX1_split_21 (fun H locs hP hD hS => ?_)
        have hP : va_P G vwCl (w_X1_split Y h_t B_t t_n (upd t_leader (Int32.toNatClampNeg x2) x2)) H := hP
        have hD : va_D A (w_X1_split Y h_t B_t t_n (upd t_leader (Int32.toNatClampNeg x2) x2)) := hD
        refine lv_iinc (v := (x2 + 1)) (lv' := [(2, .int (x2 + 1)), (0, .ref h_t)]) hx hb dX1_split_22 hl (k := 1) rfl rfl (by decide) rfl (fun ls hl => ?_)
        refine lv_goto (tgt := 7) hx hb dX1_split_25 (by decide) ?_
        exact rec7 (x2 + 1) (upd t_leader (Int32.toNatClampNeg x2) x2) H locs ls h hP hD hS (lv_sub hl [1, 0] rfl)
  exact L7 x1 I7 m7 hB7 _ (0 : Int32) t_leader H locs ls hI7 (Nat.lt_succ_self _) hP hD hS (lv_sub hl [1, 0] rfl)

set_option maxHeartbeats 4000000 in
set_option maxRecDepth 100000 in
theorem c_X1_split (l : Launch) (G : va_G) (Y : Nat → ClassId) (tF sz : Nat) (h_t : Nat) (B_t : Nat → Nat) (t_n : Int32) (t_leader : Nat → Int32) (x1 : Int32) {K : Int32 → (Nat → Int32) → Prop} (h : pX1_split t_n t_leader x1 K) : Met l yX1_split wsX1_split ({ frames := 0, cells := 0, slots := 0, locals := 0 }) (PcM G Y tF sz (w_X1_split Y h_t B_t t_n t_leader) [.ref h_t, .int x1]) (va_Qv (fun u : Int32 × (Nat → Int32) => K u.1 u.2) (fun u t => BM G Y (va_A (w_X1_split Y h_t B_t t_n t_leader) sz) (w_X1_split Y h_t B_t u.1 u.2) t) (va_A (w_X1_split Y h_t B_t t_n t_leader) sz)) 0 0 (va_A (w_X1_split Y h_t B_t t_n t_leader) sz) := by
  refine Met.ofW (cc := cX1_split) (maxL := 3) (ret := none) (by decide +kernel) rfl ?_
  intro p e s m args below meth c s₁ B hml hv
  obtain ⟨rfl, hsz, hP, hK, hD0, hE⟩ := hv
  have hts := atoms_spec (ws := wsX1_split) B.pre
  have hown : s.vm.findClass RX1 = some m.cls := findClass_of_methodNamed B.named
  have hlocks := B.notSynchronized
  subst hsz
  have hD := hD0.self (sz := s.heap.size)
  exact wk_X1_split h_t B_t t_n t_leader x1 B.exec B.bytes hml hown hts hK hE (fun q h => Or.inr h) (Nat.le_refl _) (Nat.le_refl _) (fun t_n t_leader H locs ls pc hP hD hS hk hd => W.vret B.exec B.bytes B.returns (fun t ht hW => ⟨⟨(t_n, t_leader), rfl, hk, by rw [ht]; exact hP, va_K.moved hW.alike hK, hD⟩, hS.F ht⟩) hS.2.2 hd) hP hD h

abbrev w_X1_areOne (Y : Nat → ClassId) (h_t : Nat) (B_t : Nat → Nat) (t_n : Int32) (t_leader : Nat → Int32) : va_W := [(h_t, .inr (1, [.ref (B_t 0), .ref (B_t 1), .int t_n])), ((B_t 0), .inl (Y 0, 8, .inl t_leader))]

set_option maxHeartbeats 4000000 in
set_option maxRecDepth 100000 in
theorem wk_X1_areOne {p : Program} {l : Launch} {e : Env} {R : Room} {s : State} {m : MethodId} {args : Array Value} {below : List Frame} {meth : Method} {c : Code} {Q : State → Prop} {G : va_G} {Y : Nat → ClassId} {tF : Nat} {A : Nat → Prop} (h_t : Nat) (B_t : Nat → Nat) (t_n : Int32) (t_leader : Nat → Int32) (x1 : Int32) (x2 : Int32) {K : Int32 → Prop} (hx : p.tables.exec = Jvm.exec) (hb : c.code = cX1_areOne) (hml : c.maxLocals = 3) (hown : s.vm.findClass RX1 = some m.cls) (hts : ∀ w ∈ wsX1_areOne, w.before args s = true) (hK : va_K G vwCl (tyL Y) s) (hE : Ev A tF s) (hA : ∀ q, s.heap.size ≤ q → A q) (hRf : 0 ≤ R.frames) (hRl : 0 ≤ R.locals) (hret : ∀ (r : Int32)  (H : Heap) (locs : List Loc) (ls : Array Slot) (pc : Nat), va_P G vwCl (w_X1_areOne Y h_t B_t t_n t_leader) H → va_D A (w_X1_areOne Y h_t B_t t_n t_leader) → va_S A s.heap H locs → zb r → K r → decode cX1_areOne pc = .ok (.ireturn, 1) → W p l e R s m args below meth c H locs 0 0 Q (F0 m pc ls [.int r])) (hP : va_P G vwCl (w_X1_areOne Y h_t B_t t_n t_leader) s.heap) (hD : va_D A (w_X1_areOne Y h_t B_t t_n t_leader)) (h : pX1_areOne t_leader x1 x2 K) : W p l e R s m args below meth c s.heap [] 0 0 Q (entryFrame m ([.ref h_t, .int x1, .int x2] : List Value).toArray 3) := by
  have inX1 : ∀ w ∈ u_ws RX1 TX1 3, w ∈ wsX1_areOne := by decide +kernel
  have hf9 := hts (.fieldLink RX1 9 "RackBench$Classes" "leader" "[I") (by decide +kernel)
  have hl := lv_entry ([.ref h_t, .int x1, .int x2]) (n := 3) (Nat.le_of_ble_eq_true rfl)
  rw [lg_entry_eq]
  generalize (lg_sl ([.ref h_t, .int x1, .int x2]) ++ List.replicate (3 - (lg_sl ([.ref h_t, .int x1, .int x2])).length) Slot.unset).toArray = ls at hl ⊢
  have hl : lv_has ls 3 [(0, .ref h_t), (1, .int x1), (2, .int x2)] := hl
  generalize hH0 : s.heap = H at hP ⊢
  have hS : va_S A s.heap H [] := by rw [← hH0]; exact va_S.rf
  clear hH0
  generalize ([] : List Loc) = locs at hS ⊢
  refine lv_aload_n hx hb dX1_areOne_0 rfl (lv_at hl 0 rfl) ?_
  refine va_get (D := G) (ci := 1) (v := .ref (B_t 0)) (C := RX1) (T := TX1) (N := 3) hx hb hts inX1 hown hK hP 0 rfl rfl 0 (by decide) hf9 (fun _ h9 => h9) rfl dX1_areOne_1 ?_
  refine lv_iload_n hx hb dX1_areOne_4 rfl (lv_at hl 1 rfl) ?_
  obtain ⟨hin, h⟩ := h
  refine va_iald hx hb hK hP 1 0 rfl rfl hin dX1_areOne_5 ?_
  refine lv_aload_n hx hb dX1_areOne_6 rfl (lv_at hl 0 rfl) ?_
  refine va_get (D := G) (ci := 1) (v := .ref (B_t 0)) (C := RX1) (T := TX1) (N := 3) hx hb hts inX1 hown hK hP 0 rfl rfl 0 (by decide) hf9 (fun _ h9 => h9) rfl dX1_areOne_7 ?_
  refine lv_iload_n hx hb dX1_areOne_10 rfl (lv_at hl 2 rfl) ?_
  obtain ⟨hin, h⟩ := h
  refine va_iald hx hb hK hP 1 0 rfl rfl hin dX1_areOne_11 ?_
  obtain ⟨ht, hf⟩ := h
  refine lv_icmp_ne (tgt := 19) hx hb dX1_areOne_12 (by decide) (fun c9 => ?_) (fun c9 => ?_)
  · have h := ht c9
    refine lv_iconst (v := 0) hx hb dX1_areOne_19 (by decide) ?_
    obtain ⟨hz, h⟩ := h
    exact hret (0 : Int32)  H locs ls _ hP hD hS hz h dX1_areOne_20
  · have h := hf c9
    refine lv_iconst (v := 1) hx hb dX1_areOne_15 (by decide) ?_
    refine lv_goto (tgt := 20) hx hb dX1_areOne_16 (by decide) ?_
    obtain ⟨hz, h⟩ := h
    exact hret (1 : Int32)  H locs ls _ hP hD hS hz h dX1_areOne_20

set_option maxHeartbeats 4000000 in
set_option maxRecDepth 100000 in
theorem c_X1_areOne (l : Launch) (G : va_G) (Y : Nat → ClassId) (tF sz : Nat) (h_t : Nat) (B_t : Nat → Nat) (t_n : Int32) (t_leader : Nat → Int32) (x1 : Int32) (x2 : Int32) {K : Int32 → Prop} (h : pX1_areOne t_leader x1 x2 K) : Met l yX1_areOne wsX1_areOne ({ frames := 0, cells := 0, slots := 0, locals := 0 }) (PcM G Y tF sz (w_X1_areOne Y h_t B_t t_n t_leader) [.ref h_t, .int x1, .int x2]) (va_Qi (fun (r : Int32) (u : Unit) => K r ) (fun u t => BM G Y (va_A (w_X1_areOne Y h_t B_t t_n t_leader) sz) (w_X1_areOne Y h_t B_t t_n t_leader) t) (va_A (w_X1_areOne Y h_t B_t t_n t_leader) sz)) 0 0 (va_A (w_X1_areOne Y h_t B_t t_n t_leader) sz) := by
  refine Met.ofW (cc := cX1_areOne) (maxL := 3) (ret := (some .boolean)) (by decide +kernel) rfl ?_
  intro p e s m args below meth c s₁ B hml hv
  obtain ⟨rfl, hsz, hP, hK, hD0, hE⟩ := hv
  have hts := atoms_spec (ws := wsX1_areOne) B.pre
  have hown : s.vm.findClass RX1 = some m.cls := findClass_of_methodNamed B.named
  have hlocks := B.notSynchronized
  subst hsz
  have hD := hD0.self (sz := s.heap.size)
  exact wk_X1_areOne h_t B_t t_n t_leader x1 x2 B.exec B.bytes hml hown hts hK hE (fun q h => Or.inr h) (Nat.le_refl _) (Nat.le_refl _) (fun r  H locs ls pc hP hD hS hz hk hd => W.zret (v := r) B.exec B.bytes B.returns hz.n (fun t ht hW => ⟨⟨r, (), rfl, hk, by rw [ht]; exact hP, va_K.moved hW.alike hK, hD⟩, hS.F ht⟩) hS.2.2 hd) hP hD h

abbrev w_X1_join (Y : Nat → ClassId) (h_t : Nat) (B_t : Nat → Nat) (t_n : Int32) (t_leader : Nat → Int32) : va_W := [(h_t, .inr (1, [.ref (B_t 0), .ref (B_t 1), .int t_n])), ((B_t 0), .inl (Y 0, 8, .inl t_leader))]

set_option maxHeartbeats 4000000 in
set_option maxRecDepth 100000 in
theorem wk_X1_join {p : Program} {l : Launch} {e : Env} {R : Room} {s : State} {m : MethodId} {args : Array Value} {below : List Frame} {meth : Method} {c : Code} {Q : State → Prop} {G : va_G} {Y : Nat → ClassId} {tF : Nat} {A : Nat → Prop} (h_t : Nat) (B_t : Nat → Nat) (t_n : Int32) (t_leader : Nat → Int32) (x1 : Int32) (x2 : Int32) {K : Int32 → (Nat → Int32) → Prop} (hx : p.tables.exec = Jvm.exec) (hb : c.code = cX1_join) (hml : c.maxLocals = 6) (hown : s.vm.findClass RX1 = some m.cls) (hts : ∀ w ∈ wsX1_join, w.before args s = true) (hK : va_K G vwCl (tyL Y) s) (hE : Ev A tF s) (hA : ∀ q, s.heap.size ≤ q → A q) (hRf : 1 ≤ R.frames) (hRl : 24 ≤ R.locals) (hret : ∀ (r : Int32) (t_leader : Nat → Int32) (H : Heap) (locs : List Loc) (ls : Array Slot) (pc : Nat), va_P G vwCl (w_X1_join Y h_t B_t t_n t_leader) H → va_D A (w_X1_join Y h_t B_t t_n t_leader) → va_S A s.heap H locs → zb r → K r t_leader → decode cX1_join pc = .ok (.ireturn, 1) → W p l e R s m args below meth c H locs 0 0 Q (F0 m pc ls [.int r])) (hP : va_P G vwCl (w_X1_join Y h_t B_t t_n t_leader) s.heap) (hD : va_D A (w_X1_join Y h_t B_t t_n t_leader)) (h : pX1_join t_n t_leader x1 x2 K) : W p l e R s m args below meth c s.heap [] 0 0 Q (entryFrame m ([.ref h_t, .int x1, .int x2] : List Value).toArray 6) := by
  have inX1 : ∀ w ∈ u_ws RX1 TX1 3, w ∈ wsX1_join := by decide +kernel
  have hf18 := hts (.fieldLink RX1 18 "RackBench$Classes" "n" "I") (by decide +kernel)
  have hf9 := hts (.fieldLink RX1 9 "RackBench$Classes" "leader" "[I") (by decide +kernel)
  have hl := lv_entry ([.ref h_t, .int x1, .int x2]) (n := 6) (Nat.le_of_ble_eq_true rfl)
  rw [lg_entry_eq]
  generalize (lg_sl ([.ref h_t, .int x1, .int x2]) ++ List.replicate (6 - (lg_sl ([.ref h_t, .int x1, .int x2])).length) Slot.unset).toArray = ls at hl ⊢
  have hl : lv_has ls 6 [(0, .ref h_t), (1, .int x1), (2, .int x2)] := hl
  generalize hH0 : s.heap = H at hP ⊢
  have hS : va_S A s.heap H [] := by rw [← hH0]; exact va_S.rf
  clear hH0
  generalize ([] : List Loc) = locs at hS ⊢
  refine lv_aload_n hx hb dX1_join_0 rfl (lv_at hl 0 rfl) ?_
  refine va_get (D := G) (ci := 1) (v := .ref (B_t 0)) (C := RX1) (T := TX1) (N := 3) hx hb hts inX1 hown hK hP 0 rfl rfl 0 (by decide) hf9 (fun _ h9 => h9) rfl dX1_join_1 ?_
  refine lv_iload_n hx hb dX1_join_4 rfl (lv_at hl 1 rfl) ?_
  obtain ⟨hin, h⟩ := h
  refine va_iald hx hb hK hP 1 0 rfl rfl hin dX1_join_5 ?_
  refine lv_aload_n hx hb dX1_join_6 rfl (lv_at hl 0 rfl) ?_
  refine va_get (D := G) (ci := 1) (v := .ref (B_t 0)) (C := RX1) (T := TX1) (N := 3) hx hb hts inX1 hown hK hP 0 rfl rfl 0 (by decide) hf9 (fun _ h9 => h9) rfl dX1_join_7 ?_
  refine lv_iload_n hx hb dX1_join_10 rfl (lv_at hl 2 rfl) ?_
  obtain ⟨hin, h⟩ := h
  refine va_iald hx hb hK hP 1 0 rfl rfl hin dX1_join_11 ?_
  refine va_mmin hx hb (by rw [hml]; exact hl.1.symm) hown (hts (.methodLink RX1 22 Lib.Math.min.name) (by decide +kernel)) (hts (.static Lib.Math.min.name) (by decide +kernel)) (hts (.initialized "java/lang/Math") (by decide +kernel)) (hts (.code Lib.Math.min.name Lib.Math.min.code 2 (some .int)) (by decide +kernel)) (Nat.le_trans (by decide) hRf) (Nat.le_trans (by decide) hRl) (Nat.zero_le _) (Nat.zero_le _) dX1_join_12 ?_
  refine lv_istore_n (lv' := [(3, .int (if (t_leader (Int32.toNatClampNeg x2)) < (t_leader (Int32.toNatClampNeg x1)) then (t_leader (Int32.toNatClampNeg x2)) else (t_leader (Int32.toNatClampNeg x1)))), (0, .ref h_t), (1, .int x1), (2, .int x2)]) hx hb dX1_join_15 rfl hl (by decide) rfl (fun ls hl => ?_)
  refine lv_aload_n hx hb dX1_join_16 rfl (lv_at hl 1 rfl) ?_
  refine va_get (D := G) (ci := 1) (v := .ref (B_t 0)) (C := RX1) (T := TX1) (N := 3) hx hb hts inX1 hown hK hP 0 rfl rfl 0 (by decide) hf9 (fun _ h9 => h9) rfl dX1_join_17 ?_
  refine lv_iload_n hx hb dX1_join_20 rfl (lv_at hl 2 rfl) ?_
  obtain ⟨hin, h⟩ := h
  refine va_iald hx hb hK hP 1 0 rfl rfl hin dX1_join_21 ?_
  refine lv_aload_n hx hb dX1_join_22 rfl (lv_at hl 1 rfl) ?_
  refine va_get (D := G) (ci := 1) (v := .ref (B_t 0)) (C := RX1) (T := TX1) (N := 3) hx hb hts inX1 hown hK hP 0 rfl rfl 0 (by decide) hf9 (fun _ h9 => h9) rfl dX1_join_23 ?_
  refine lv_iload_n hx hb dX1_join_26 rfl (lv_at hl 3 rfl) ?_
  obtain ⟨hin, h⟩ := h
  refine va_iald hx hb hK hP 1 0 rfl rfl hin dX1_join_27 ?_
  refine va_mmax hx hb (by rw [hml]; exact hl.1.symm) hown (hts (.methodLink RX1 28 Lib.Math.max.name) (by decide +kernel)) (hts (.static Lib.Math.max.name) (by decide +kernel)) (hts (.initialized "java/lang/Math") (by decide +kernel)) (hts (.code Lib.Math.max.name Lib.Math.max.code 2 (some .int)) (by decide +kernel)) (Nat.le_trans (by decide) hRf) (Nat.le_trans (by decide) hRl) (Nat.zero_le _) (Nat.zero_le _) dX1_join_28 ?_
  refine lv_istore (lv' := [(4, .int (if (t_leader (Int32.toNatClampNeg x1)) < (t_leader (Int32.toNatClampNeg x2)) then (t_leader (Int32.toNatClampNeg x2)) else (t_leader (Int32.toNatClampNeg x1)))), (3, .int (if (t_leader (Int32.toNatClampNeg x2)) < (t_leader (Int32.toNatClampNeg x1)) then (t_leader (Int32.toNatClampNeg x2)) else (t_leader (Int32.toNatClampNeg x1)))), (0, .ref h_t), (1, .int x1), (2, .int x2)]) hx hb dX1_join_31 hl (by decide) rfl (fun ls hl => ?_)
  refine lv_iconst (v := 0) hx hb dX1_join_33 (by decide) ?_
  refine lv_istore (lv' := [(5, .int (0 : Int32)), (4, .int (if (t_leader (Int32.toNatClampNeg x1)) < (t_leader (Int32.toNatClampNeg x2)) then (t_leader (Int32.toNatClampNeg x2)) else (t_leader (Int32.toNatClampNeg x1)))), (3, .int (if (t_leader (Int32.toNatClampNeg x2)) < (t_leader (Int32.toNatClampNeg x1)) then (t_leader (Int32.toNatClampNeg x2)) else (t_leader (Int32.toNatClampNeg x1)))), (0, .ref h_t), (1, .int x1), (2, .int x2)]) hx hb dX1_join_34 hl (by decide) rfl (fun ls hl => ?_)
  obtain ⟨I36, m36, hI36, hB36⟩ := h
  have L36 : ∀ (x3 : Int32) (x4 : Int32) (I36 : Int32 → (Nat → Int32) → Prop) (m36 : Int32 → (Nat → Int32) → Nat), (∀ (x5 : Int32) (t_leader : Nat → Int32), I36 x5 t_leader → pX1_join_36 t_n K x3 x4 x5 t_leader (fun x5' t_leader' => I36 x5' t_leader' ∧ m36 x5' t_leader' < m36 x5 t_leader)) → ∀ (n : Nat) (x5 : Int32) (t_leader : Nat → Int32) (H : Heap) (locs : List Loc) (ls : Array Slot), I36 x5 t_leader → m36 x5 t_leader < n → va_P G vwCl (w_X1_join Y h_t B_t t_n t_leader) H → va_D A (w_X1_join Y h_t B_t t_n t_leader) → va_S A s.heap H locs → lv_has ls 6 [(0, .ref h_t), (3, .int x3), (4, .int x4), (5, .int x5)] → W p l e R s m args below meth c H locs 0 0 Q (F0 m 36 ls []) := by
    intro x3 x4 I36 m36 hB36 n
    induction n with
    | zero => intro x5 t_leader H locs ls _ hm; exact absurd hm (Nat.not_lt_zero _)
    | succ n ih =>
      intro x5 t_leader H locs ls hI hm hP hD hS hl
      obtain ⟨R36, h, rec36⟩ : ∃ R36 : Int32 → (Nat → Int32) → Prop, pX1_join_36 t_n K x3 x4 x5 t_leader R36 ∧ ∀ (x5 : Int32) (t_leader : Nat → Int32) (H : Heap) (locs : List Loc) (ls : Array Slot), R36 x5 t_leader → va_P G vwCl (w_X1_join Y h_t B_t t_n t_leader) H → va_D A (w_X1_join Y h_t B_t t_n t_leader) → va_S A s.heap H locs → lv_has ls 6 [(0, .ref h_t), (3, .int x3), (4, .int x4), (5, .int x5)] → W p l e R s m args below meth c H locs 0 0 Q (F0 m 36 ls []) := ⟨_, hB36 x5 t_leader hI, fun x5 t_leader H locs ls hh hP hD hS hl => ih x5 t_leader H locs ls hh.1 (Nat.lt_of_lt_of_le hh.2 (Nat.le_of_lt_succ hm)) hP hD hS hl⟩
      refine lv_iload hx hb dX1_join_36 (lv_at hl 3 rfl) ?_
      refine lv_aload_n hx hb dX1_join_38 rfl (lv_at hl 0 rfl) ?_
      refine va_get (D := G) (ci := 1) (v := .int t_n) (C := RX1) (T := TX1) (N := 3) hx hb hts inX1 hown hK hP 0 rfl rfl 2 (by decide) hf18 (fun _ h9 => h9) rfl dX1_join_39 ?_
      obtain ⟨ht, hf⟩ := h
      refine lv_icmp_ge (tgt := 71) hx hb dX1_join_42 (by decide) (fun c9 => ?_) (fun c9 => ?_)
      · have h := ht c9
        refine lv_iload_n hx hb dX1_join_71 rfl (lv_at hl 1 rfl) ?_
        refine lv_iload hx hb dX1_join_72 (lv_at hl 2 rfl) ?_
        obtain ⟨ht, hf⟩ := h
        refine lv_icmp_eq (tgt := 81) hx hb dX1_join_74 (by decide) (fun c9 => ?_) (fun c9 => ?_)
        · have h := ht c9
          refine lv_iconst (v := 0) hx hb dX1_join_81 (by decide) ?_
          obtain ⟨hz, h⟩ := h
          exact hret (0 : Int32) t_leader H locs ls _ hP hD hS hz h dX1_join_82
        · have h := hf c9
          refine lv_iconst (v := 1) hx hb dX1_join_77 (by decide) ?_
          refine lv_goto (tgt := 82) hx hb dX1_join_78 (by decide) ?_
          obtain ⟨hz, h⟩ := h
          exact hret (1 : Int32) t_leader H locs ls _ hP hD hS hz h dX1_join_82
      · have h := hf c9
        refine lv_aload_n hx hb dX1_join_45 rfl (lv_at hl 0 rfl) ?_
        refine va_get (D := G) (ci := 1) (v := .ref (B_t 0)) (C := RX1) (T := TX1) (N := 3) hx hb hts inX1 hown hK hP 0 rfl rfl 0 (by decide) hf9 (fun _ h9 => h9) rfl dX1_join_46 ?_
        refine lv_iload hx hb dX1_join_49 (lv_at hl 3 rfl) ?_
        obtain ⟨hin, h⟩ := h
        refine va_iald hx hb hK hP 1 0 rfl rfl hin dX1_join_51 ?_
        refine lv_iload hx hb dX1_join_52 (lv_at hl 2 rfl) ?_
        obtain ⟨ht, hf⟩ := h
        refine lv_icmp_ne (tgt := 65) hx hb dX1_join_54 (by decide) (fun c9 => ?_) (fun c9 => ?_)
        · have h := ht c9
          refine lv_iinc (v := (x5 + 1)) (lv' := [(5, .int (x5 + 1)), (0, .ref h_t), (3, .int x3), (4, .int x4)]) hx hb dX1_join_65 hl (k := 3) rfl rfl (by decide) rfl (fun ls hl => ?_)
          refine lv_goto (tgt := 36) hx hb dX1_join_68 (by decide) ?_
          exact rec36 (x5 + 1) t_leader H locs ls h hP hD hS (lv_sub hl [1, 2, 3, 0] rfl)
        · have h := hf c9
          refine lv_aload_n hx hb dX1_join_57 rfl (lv_at hl 0 rfl) ?_
          refine va_get (D := G) (ci := 1) (v := .ref (B_t 0)) (C := RX1) (T := TX1) (N := 3) hx hb hts inX1 hown hK hP 0 rfl rfl 0 (by decide) hf9 (fun _ h9 => h9) rfl dX1_join_58 ?_
          refine lv_iload hx hb dX1_join_61 (lv_at hl 3 rfl) ?_
          refine lv_iload_n hx hb dX1_join_63 rfl (lv_at hl 1 rfl) ?_
          obtain ⟨hin, h⟩ := h
          refine va_iast hx hb hK hP hD hS 1 0 rfl rfl hin dX1_join_64 (fun H locs hP hD hS => ?_)
          have hP : va_P G vwCl (w_X1_join Y h_t B_t t_n (upd t_leader (Int32.toNatClampNeg x5) x3)) H := hP
          have hD : va_D A (w_X1_join Y h_t B_t t_n (upd t_leader (Int32.toNatClampNeg x5) x3)) := hD
          refine lv_iinc (v := (x5 + 1)) (lv' := [(5, .int (x5 + 1)), (0, .ref h_t), (3, .int x3), (4, .int x4)]) hx hb dX1_join_65 hl (k := 3) rfl rfl (by decide) rfl (fun ls hl => ?_)
          refine lv_goto (tgt := 36) hx hb dX1_join_68 (by decide) ?_
          exact rec36 (x5 + 1) (upd t_leader (Int32.toNatClampNeg x5) x3) H locs ls h hP hD hS (lv_sub hl [1, 2, 3, 0] rfl)
  exact L36 (if (t_leader (Int32.toNatClampNeg x2)) < (t_leader (Int32.toNatClampNeg x1)) then (t_leader (Int32.toNatClampNeg x2)) else (t_leader (Int32.toNatClampNeg x1))) (if (t_leader (Int32.toNatClampNeg x1)) < (t_leader (Int32.toNatClampNeg x2)) then (t_leader (Int32.toNatClampNeg x2)) else (t_leader (Int32.toNatClampNeg x1))) I36 m36 hB36 _ (0 : Int32) t_leader H locs ls hI36 (Nat.lt_succ_self _) hP hD hS (lv_sub hl [3, 2, 1, 0] rfl)

set_option maxHeartbeats 4000000 in
set_option maxRecDepth 100000 in
theorem c_X1_join (l : Launch) (G : va_G) (Y : Nat → ClassId) (tF sz : Nat) (h_t : Nat) (B_t : Nat → Nat) (t_n : Int32) (t_leader : Nat → Int32) (x1 : Int32) (x2 : Int32) {K : Int32 → (Nat → Int32) → Prop} (h : pX1_join t_n t_leader x1 x2 K) : Met l yX1_join wsX1_join ({ frames := 1, cells := 0, slots := 0, locals := 24 }) (PcM G Y tF sz (w_X1_join Y h_t B_t t_n t_leader) [.ref h_t, .int x1, .int x2]) (va_Qi (fun (r : Int32) (u : (Nat → Int32)) => K r u) (fun u t => BM G Y (va_A (w_X1_join Y h_t B_t t_n t_leader) sz) (w_X1_join Y h_t B_t t_n u) t) (va_A (w_X1_join Y h_t B_t t_n t_leader) sz)) 0 0 (va_A (w_X1_join Y h_t B_t t_n t_leader) sz) := by
  refine Met.ofW (cc := cX1_join) (maxL := 6) (ret := (some .boolean)) (by decide +kernel) rfl ?_
  intro p e s m args below meth c s₁ B hml hv
  obtain ⟨rfl, hsz, hP, hK, hD0, hE⟩ := hv
  have hts := atoms_spec (ws := wsX1_join) B.pre
  have hown : s.vm.findClass RX1 = some m.cls := findClass_of_methodNamed B.named
  have hlocks := B.notSynchronized
  subst hsz
  have hD := hD0.self (sz := s.heap.size)
  exact wk_X1_join h_t B_t t_n t_leader x1 x2 B.exec B.bytes hml hown hts hK hE (fun q h => Or.inr h) (Nat.le_refl _) (Nat.le_refl _) (fun r t_leader H locs ls pc hP hD hS hz hk hd => W.zret (v := r) B.exec B.bytes B.returns hz.n (fun t ht hW => ⟨⟨r, t_leader, rfl, hk, by rw [ht]; exact hP, va_K.moved hW.alike hK, hD⟩, hS.F ht⟩) hS.2.2 hd) hP hD h

abbrev w_X1_number (Y : Nat → ClassId) (h_t : Nat) (B_t : Nat → Nat) (t_n : Int32) (t_leader : Nat → Int32) (t_numbers : Nat → Int32) : va_W := [(h_t, .inr (1, [.ref (B_t 0), .ref (B_t 1), .int t_n])), ((B_t 0), .inl (Y 0, 8, .inl t_leader)), ((B_t 1), .inl (Y 0, 8, .inl t_numbers))]

set_option maxHeartbeats 4000000 in
set_option maxRecDepth 100000 in
theorem wk_X1_number {p : Program} {l : Launch} {e : Env} {R : Room} {s : State} {m : MethodId} {args : Array Value} {below : List Frame} {meth : Method} {c : Code} {Q : State → Prop} {G : va_G} {Y : Nat → ClassId} {tF : Nat} {A : Nat → Prop} (h_t : Nat) (B_t : Nat → Nat) (t_n : Int32) (t_leader : Nat → Int32) (t_numbers : Nat → Int32) {K : Int32 → (Nat → Int32) → Prop} (hx : p.tables.exec = Jvm.exec) (hb : c.code = cX1_number) (hml : c.maxLocals = 3) (hown : s.vm.findClass RX1 = some m.cls) (hts : ∀ w ∈ wsX1_number, w.before args s = true) (hK : va_K G vwCl (tyL Y) s) (hE : Ev A tF s) (hA : ∀ q, s.heap.size ≤ q → A q) (hRf : 0 ≤ R.frames) (hRl : 0 ≤ R.locals) (hret : ∀ (r : Int32) (t_numbers : Nat → Int32) (H : Heap) (locs : List Loc) (ls : Array Slot) (pc : Nat), va_P G vwCl (w_X1_number Y h_t B_t t_n t_leader t_numbers) H → va_D A (w_X1_number Y h_t B_t t_n t_leader t_numbers) → va_S A s.heap H locs → K r t_numbers → decode cX1_number pc = .ok (.ireturn, 1) → W p l e R s m args below meth c H locs 0 0 Q (F0 m pc ls [.int r])) (hP : va_P G vwCl (w_X1_number Y h_t B_t t_n t_leader t_numbers) s.heap) (hD : va_D A (w_X1_number Y h_t B_t t_n t_leader t_numbers)) (h : pX1_number t_n t_leader t_numbers K) : W p l e R s m args below meth c s.heap [] 0 0 Q (entryFrame m ([.ref h_t] : List Value).toArray 3) := by
  have inX1 : ∀ w ∈ u_ws RX1 TX1 3, w ∈ wsX1_number := by decide +kernel
  have hf15 := hts (.fieldLink RX1 15 "RackBench$Classes" "numbers" "[I") (by decide +kernel)
  have hf18 := hts (.fieldLink RX1 18 "RackBench$Classes" "n" "I") (by decide +kernel)
  have hf9 := hts (.fieldLink RX1 9 "RackBench$Classes" "leader" "[I") (by decide +kernel)
  have hl := lv_entry ([.ref h_t]) (n := 3) (Nat.le_of_ble_eq_true rfl)
  rw [lg_entry_eq]
  generalize (lg_sl ([.ref h_t]) ++ List.replicate (3 - (lg_sl ([.ref h_t])).length) Slot.unset).toArray = ls at hl ⊢
  have hl : lv_has ls 3 [(0, .ref h_t)] := hl
  generalize hH0 : s.heap = H at hP ⊢
  have hS : va_S A s.heap H [] := by rw [← hH0]; exact va_S.rf
  clear hH0
  generalize ([] : List Loc) = locs at hS ⊢
  refine lv_iconst (v := 0) hx hb dX1_number_0 (by decide) ?_
  refine lv_istore_n (lv' := [(1, .int (0 : Int32)), (0, .ref h_t)]) hx hb dX1_number_1 rfl hl (by decide) rfl (fun ls hl => ?_)
  refine lv_iconst (v := 0) hx hb dX1_number_2 (by decide) ?_
  refine lv_istore_n (lv' := [(2, .int (0 : Int32)), (1, .int (0 : Int32)), (0, .ref h_t)]) hx hb dX1_number_3 rfl hl (by decide) rfl (fun ls hl => ?_)
  obtain ⟨I4, m4, hI4, hB4⟩ := h
  have L4 : ∀  (I4 : Int32 → Int32 → (Nat → Int32) → Prop) (m4 : Int32 → Int32 → (Nat → Int32) → Nat), (∀ (x1 : Int32) (x2 : Int32) (t_numbers : Nat → Int32), I4 x1 x2 t_numbers → pX1_number_4 t_n t_leader K x1 x2 t_numbers (fun x1' x2' t_numbers' => I4 x1' x2' t_numbers' ∧ m4 x1' x2' t_numbers' < m4 x1 x2 t_numbers)) → ∀ (n : Nat) (x1 : Int32) (x2 : Int32) (t_numbers : Nat → Int32) (H : Heap) (locs : List Loc) (ls : Array Slot), I4 x1 x2 t_numbers → m4 x1 x2 t_numbers < n → va_P G vwCl (w_X1_number Y h_t B_t t_n t_leader t_numbers) H → va_D A (w_X1_number Y h_t B_t t_n t_leader t_numbers) → va_S A s.heap H locs → lv_has ls 3 [(0, .ref h_t), (1, .int x1), (2, .int x2)] → W p l e R s m args below meth c H locs 0 0 Q (F0 m 4 ls []) := by
    intro  I4 m4 hB4 n
    induction n with
    | zero => intro x1 x2 t_numbers H locs ls _ hm; exact absurd hm (Nat.not_lt_zero _)
    | succ n ih =>
      intro x1 x2 t_numbers H locs ls hI hm hP hD hS hl
      obtain ⟨R4, h, rec4⟩ : ∃ R4 : Int32 → Int32 → (Nat → Int32) → Prop, pX1_number_4 t_n t_leader K x1 x2 t_numbers R4 ∧ ∀ (x1 : Int32) (x2 : Int32) (t_numbers : Nat → Int32) (H : Heap) (locs : List Loc) (ls : Array Slot), R4 x1 x2 t_numbers → va_P G vwCl (w_X1_number Y h_t B_t t_n t_leader t_numbers) H → va_D A (w_X1_number Y h_t B_t t_n t_leader t_numbers) → va_S A s.heap H locs → lv_has ls 3 [(0, .ref h_t), (1, .int x1), (2, .int x2)] → W p l e R s m args below meth c H locs 0 0 Q (F0 m 4 ls []) := ⟨_, hB4 x1 x2 t_numbers hI, fun x1 x2 t_numbers H locs ls hh hP hD hS hl => ih x1 x2 t_numbers H locs ls hh.1 (Nat.lt_of_lt_of_le hh.2 (Nat.le_of_lt_succ hm)) hP hD hS hl⟩
      refine lv_iload_n hx hb dX1_number_4 rfl (lv_at hl 2 rfl) ?_
      refine lv_aload_n hx hb dX1_number_5 rfl (lv_at hl 0 rfl) ?_
      refine va_get (D := G) (ci := 1) (v := .int t_n) (C := RX1) (T := TX1) (N := 3) hx hb hts inX1 hown hK hP 0 rfl rfl 2 (by decide) hf18 (fun _ h9 => h9) rfl dX1_number_6 ?_
      obtain ⟨ht, hf⟩ := h
      refine lv_icmp_ge (tgt := 58) hx hb dX1_number_9 (by decide) (fun c9 => ?_) (fun c9 => ?_)
      · have h := ht c9
        refine lv_iload_n hx hb dX1_number_58 rfl (lv_at hl 1 rfl) ?_
        exact hret x1 t_numbers H locs ls _ hP hD hS h dX1_number_59
      · have h := hf c9
        refine lv_aload_n hx hb dX1_number_12 rfl (lv_at hl 0 rfl) ?_
        refine va_get (D := G) (ci := 1) (v := .ref (B_t 0)) (C := RX1) (T := TX1) (N := 3) hx hb hts inX1 hown hK hP 0 rfl rfl 0 (by decide) hf9 (fun _ h9 => h9) rfl dX1_number_13 ?_
        refine lv_iload_n hx hb dX1_number_16 rfl (lv_at hl 2 rfl) ?_
        obtain ⟨hin, h⟩ := h
        refine va_iald hx hb hK hP 1 0 rfl rfl hin dX1_number_17 ?_
        refine lv_iload_n hx hb dX1_number_18 rfl (lv_at hl 2 rfl) ?_
        obtain ⟨ht, hf⟩ := h
        refine lv_icmp_ne (tgt := 35) hx hb dX1_number_19 (by decide) (fun c9 => ?_) (fun c9 => ?_)
        · have h := ht c9
          refine lv_aload_n hx hb dX1_number_35 rfl (lv_at hl 0 rfl) ?_
          refine va_get (D := G) (ci := 1) (v := .ref (B_t 1)) (C := RX1) (T := TX1) (N := 3) hx hb hts inX1 hown hK hP 0 rfl rfl 1 (by decide) hf15 (fun _ h9 => h9) rfl dX1_number_36 ?_
          refine lv_iload_n hx hb dX1_number_39 rfl (lv_at hl 2 rfl) ?_
          refine lv_aload_n hx hb dX1_number_40 rfl (lv_at hl 0 rfl) ?_
          refine va_get (D := G) (ci := 1) (v := .ref (B_t 1)) (C := RX1) (T := TX1) (N := 3) hx hb hts inX1 hown hK hP 0 rfl rfl 1 (by decide) hf15 (fun _ h9 => h9) rfl dX1_number_41 ?_
          refine lv_aload_n hx hb dX1_number_44 rfl (lv_at hl 0 rfl) ?_
          refine va_get (D := G) (ci := 1) (v := .ref (B_t 0)) (C := RX1) (T := TX1) (N := 3) hx hb hts inX1 hown hK hP 0 rfl rfl 0 (by decide) hf9 (fun _ h9 => h9) rfl dX1_number_45 ?_
          refine lv_iload_n hx hb dX1_number_48 rfl (lv_at hl 2 rfl) ?_
          obtain ⟨hin, h⟩ := h
          refine va_iald hx hb hK hP 1 0 rfl rfl hin dX1_number_49 ?_
          obtain ⟨hin, h⟩ := h
          refine va_iald hx hb hK hP 2 0 rfl rfl hin dX1_number_50 ?_
          obtain ⟨hin, h⟩ := h
          refine va_iast hx hb hK hP hD hS 2 0 rfl rfl hin dX1_number_51 (fun H locs hP hD hS => ?_)
          have hP : va_P G vwCl (w_X1_number Y h_t B_t t_n t_leader (upd t_numbers (Int32.toNatClampNeg x2) (t_numbers (Int32.toNatClampNeg (t_leader (Int32.toNatClampNeg x2)))))) H := hP
          have hD : va_D A (w_X1_number Y h_t B_t t_n t_leader (upd t_numbers (Int32.toNatClampNeg x2) (t_numbers (Int32.toNatClampNeg (t_leader (Int32.toNatClampNeg x2)))))) := hD
          refine lv_iinc (v := (x2 + 1)) (lv' := [(2, .int (x2 + 1)), (0, .ref h_t), (1, .int x1)]) hx hb dX1_number_52 hl (k := 2) rfl rfl (by decide) rfl (fun ls hl => ?_)
          refine lv_goto (tgt := 4) hx hb dX1_number_55 (by decide) ?_
          exact rec4 x1 (x2 + 1) (upd t_numbers (Int32.toNatClampNeg x2) (t_numbers (Int32.toNatClampNeg (t_leader (Int32.toNatClampNeg x2))))) H locs ls h hP hD hS (lv_sub hl [1, 2, 0] rfl)
        · have h := hf c9
          refine lv_aload_n hx hb dX1_number_22 rfl (lv_at hl 0 rfl) ?_
          refine va_get (D := G) (ci := 1) (v := .ref (B_t 1)) (C := RX1) (T := TX1) (N := 3) hx hb hts inX1 hown hK hP 0 rfl rfl 1 (by decide) hf15 (fun _ h9 => h9) rfl dX1_number_23 ?_
          refine lv_iload_n hx hb dX1_number_26 rfl (lv_at hl 2 rfl) ?_
          refine lv_iload_n hx hb dX1_number_27 rfl (lv_at hl 1 rfl) ?_
          obtain ⟨hin, h⟩ := h
          refine va_iast hx hb hK hP hD hS 2 0 rfl rfl hin dX1_number_28 (fun H locs hP hD hS => ?_)
          have hP : va_P G vwCl (w_X1_number Y h_t B_t t_n t_leader (upd t_numbers (Int32.toNatClampNeg x2) x1)) H := hP
          have hD : va_D A (w_X1_number Y h_t B_t t_n t_leader (upd t_numbers (Int32.toNatClampNeg x2) x1)) := hD
          refine lv_iinc (v := (x1 + 1)) (lv' := [(1, .int (x1 + 1)), (0, .ref h_t), (2, .int x2)]) hx hb dX1_number_29 hl (k := 1) rfl rfl (by decide) rfl (fun ls hl => ?_)
          refine lv_goto (tgt := 52) hx hb dX1_number_32 (by decide) ?_
          refine lv_iinc (v := (x2 + 1)) (lv' := [(2, .int (x2 + 1)), (1, .int (x1 + 1)), (0, .ref h_t)]) hx hb dX1_number_52 hl (k := 2) rfl rfl (by decide) rfl (fun ls hl => ?_)
          refine lv_goto (tgt := 4) hx hb dX1_number_55 (by decide) ?_
          exact rec4 (x1 + 1) (x2 + 1) (upd t_numbers (Int32.toNatClampNeg x2) x1) H locs ls h hP hD hS (lv_sub hl [2, 1, 0] rfl)
  exact L4  I4 m4 hB4 _ (0 : Int32) (0 : Int32) t_numbers H locs ls hI4 (Nat.lt_succ_self _) hP hD hS (lv_sub hl [2, 1, 0] rfl)

set_option maxHeartbeats 4000000 in
set_option maxRecDepth 100000 in
theorem c_X1_number (l : Launch) (G : va_G) (Y : Nat → ClassId) (tF sz : Nat) (h_t : Nat) (B_t : Nat → Nat) (t_n : Int32) (t_leader : Nat → Int32) (t_numbers : Nat → Int32) {K : Int32 → (Nat → Int32) → Prop} (h : pX1_number t_n t_leader t_numbers K) : Met l yX1_number wsX1_number ({ frames := 0, cells := 0, slots := 0, locals := 0 }) (PcM G Y tF sz (w_X1_number Y h_t B_t t_n t_leader t_numbers) [.ref h_t]) (va_Qi (fun (r : Int32) (u : (Nat → Int32)) => K r u) (fun u t => BM G Y (va_A (w_X1_number Y h_t B_t t_n t_leader t_numbers) sz) (w_X1_number Y h_t B_t t_n t_leader u) t) (va_A (w_X1_number Y h_t B_t t_n t_leader t_numbers) sz)) 0 0 (va_A (w_X1_number Y h_t B_t t_n t_leader t_numbers) sz) := by
  refine Met.ofW (cc := cX1_number) (maxL := 3) (ret := (some .int)) (by decide +kernel) rfl ?_
  intro p e s m args below meth c s₁ B hml hv
  obtain ⟨rfl, hsz, hP, hK, hD0, hE⟩ := hv
  have hts := atoms_spec (ws := wsX1_number) B.pre
  have hown : s.vm.findClass RX1 = some m.cls := findClass_of_methodNamed B.named
  have hlocks := B.notSynchronized
  subst hsz
  have hD := hD0.self (sz := s.heap.size)
  exact wk_X1_number h_t B_t t_n t_leader t_numbers B.exec B.bytes hml hown hts hK hE (fun q h => Or.inr h) (Nat.le_refl _) (Nat.le_refl _) (fun r t_numbers H locs ls pc hP hD hS hk hd => W.iret (v := r) B.exec B.bytes B.returns (fun t ht hW => ⟨⟨r, t_numbers, rfl, hk, by rw [ht]; exact hP, va_K.moved hW.alike hK, hD⟩, hS.F ht⟩) hS.2.2 hd) hP hD h

abbrev w_X1_numberOf (Y : Nat → ClassId) (h_t : Nat) (B_t : Nat → Nat) (t_n : Int32) (t_numbers : Nat → Int32) : va_W := [(h_t, .inr (1, [.ref (B_t 0), .ref (B_t 1), .int t_n])), ((B_t 1), .inl (Y 0, 8, .inl t_numbers))]

set_option maxHeartbeats 4000000 in
set_option maxRecDepth 100000 in
theorem wk_X1_numberOf {p : Program} {l : Launch} {e : Env} {R : Room} {s : State} {m : MethodId} {args : Array Value} {below : List Frame} {meth : Method} {c : Code} {Q : State → Prop} {G : va_G} {Y : Nat → ClassId} {tF : Nat} {A : Nat → Prop} (h_t : Nat) (B_t : Nat → Nat) (t_n : Int32) (t_numbers : Nat → Int32) (x1 : Int32) {K : Int32 → Prop} (hx : p.tables.exec = Jvm.exec) (hb : c.code = cX1_numberOf) (hml : c.maxLocals = 2) (hown : s.vm.findClass RX1 = some m.cls) (hts : ∀ w ∈ wsX1_numberOf, w.before args s = true) (hK : va_K G vwCl (tyL Y) s) (hE : Ev A tF s) (hA : ∀ q, s.heap.size ≤ q → A q) (hRf : 0 ≤ R.frames) (hRl : 0 ≤ R.locals) (hret : ∀ (r : Int32)  (H : Heap) (locs : List Loc) (ls : Array Slot) (pc : Nat), va_P G vwCl (w_X1_numberOf Y h_t B_t t_n t_numbers) H → va_D A (w_X1_numberOf Y h_t B_t t_n t_numbers) → va_S A s.heap H locs → K r → decode cX1_numberOf pc = .ok (.ireturn, 1) → W p l e R s m args below meth c H locs 0 0 Q (F0 m pc ls [.int r])) (hP : va_P G vwCl (w_X1_numberOf Y h_t B_t t_n t_numbers) s.heap) (hD : va_D A (w_X1_numberOf Y h_t B_t t_n t_numbers)) (h : pX1_numberOf t_numbers x1 K) : W p l e R s m args below meth c s.heap [] 0 0 Q (entryFrame m ([.ref h_t, .int x1] : List Value).toArray 2) := by
  have inX1 : ∀ w ∈ u_ws RX1 TX1 3, w ∈ wsX1_numberOf := by decide +kernel
  have hf15 := hts (.fieldLink RX1 15 "RackBench$Classes" "numbers" "[I") (by decide +kernel)
  have hl := lv_entry ([.ref h_t, .int x1]) (n := 2) (Nat.le_of_ble_eq_true rfl)
  rw [lg_entry_eq]
  generalize (lg_sl ([.ref h_t, .int x1]) ++ List.replicate (2 - (lg_sl ([.ref h_t, .int x1])).length) Slot.unset).toArray = ls at hl ⊢
  have hl : lv_has ls 2 [(0, .ref h_t), (1, .int x1)] := hl
  generalize hH0 : s.heap = H at hP ⊢
  have hS : va_S A s.heap H [] := by rw [← hH0]; exact va_S.rf
  clear hH0
  generalize ([] : List Loc) = locs at hS ⊢
  refine lv_aload_n hx hb dX1_numberOf_0 rfl (lv_at hl 0 rfl) ?_
  refine va_get (D := G) (ci := 1) (v := .ref (B_t 1)) (C := RX1) (T := TX1) (N := 3) hx hb hts inX1 hown hK hP 0 rfl rfl 1 (by decide) hf15 (fun _ h9 => h9) rfl dX1_numberOf_1 ?_
  refine lv_iload_n hx hb dX1_numberOf_4 rfl (lv_at hl 1 rfl) ?_
  obtain ⟨hin, h⟩ := h
  refine va_iald hx hb hK hP 1 0 rfl rfl hin dX1_numberOf_5 ?_
  exact hret (t_numbers (Int32.toNatClampNeg x1))  H locs ls _ hP hD hS h dX1_numberOf_6

set_option maxHeartbeats 4000000 in
set_option maxRecDepth 100000 in
theorem c_X1_numberOf (l : Launch) (G : va_G) (Y : Nat → ClassId) (tF sz : Nat) (h_t : Nat) (B_t : Nat → Nat) (t_n : Int32) (t_numbers : Nat → Int32) (x1 : Int32) {K : Int32 → Prop} (h : pX1_numberOf t_numbers x1 K) : Met l yX1_numberOf wsX1_numberOf ({ frames := 0, cells := 0, slots := 0, locals := 0 }) (PcM G Y tF sz (w_X1_numberOf Y h_t B_t t_n t_numbers) [.ref h_t, .int x1]) (va_Qi (fun (r : Int32) (u : Unit) => K r ) (fun u t => BM G Y (va_A (w_X1_numberOf Y h_t B_t t_n t_numbers) sz) (w_X1_numberOf Y h_t B_t t_n t_numbers) t) (va_A (w_X1_numberOf Y h_t B_t t_n t_numbers) sz)) 0 0 (va_A (w_X1_numberOf Y h_t B_t t_n t_numbers) sz) := by
  refine Met.ofW (cc := cX1_numberOf) (maxL := 2) (ret := (some .int)) (by decide +kernel) rfl ?_
  intro p e s m args below meth c s₁ B hml hv
  obtain ⟨rfl, hsz, hP, hK, hD0, hE⟩ := hv
  have hts := atoms_spec (ws := wsX1_numberOf) B.pre
  have hown : s.vm.findClass RX1 = some m.cls := findClass_of_methodNamed B.named
  have hlocks := B.notSynchronized
  subst hsz
  have hD := hD0.self (sz := s.heap.size)
  exact wk_X1_numberOf h_t B_t t_n t_numbers x1 B.exec B.bytes hml hown hts hK hE (fun q h => Or.inr h) (Nat.le_refl _) (Nat.le_refl _) (fun r  H locs ls pc hP hD hS hk hd => W.iret (v := r) B.exec B.bytes B.returns (fun t ht hW => ⟨⟨r, (), rfl, hk, by rw [ht]; exact hP, va_K.moved hW.alike hK, hD⟩, hS.F ht⟩) hS.2.2 hd) hP hD h

abbrev w_X5_image (Y : Nat → ClassId) : va_W := []

set_option maxHeartbeats 4000000 in
set_option maxRecDepth 100000 in
theorem wk_X5_image {p : Program} {l : Launch} {e : Env} {R : Room} {s : State} {m : MethodId} {args : Array Value} {below : List Frame} {meth : Method} {c : Code} {Q : State → Prop} {G : va_G} {Y : Nat → ClassId} {tF : Nat} {A : Nat → Prop} (x0 : Int32) (x1 : Int32) {K : Int32 → Prop} (hx : p.tables.exec = Jvm.exec) (hb : c.code = cX5_image) (hml : c.maxLocals = 2) (hown : s.vm.findClass RX5 = some m.cls) (hts : ∀ w ∈ wsX5_image, w.before args s = true) (hK : va_K G vwCl (tyL Y) s) (hE : Ev A tF s) (hA : ∀ q, s.heap.size ≤ q → A q) (hRf : 0 ≤ R.frames) (hRl : 0 ≤ R.locals) (hret : ∀ (r : Int32)  (H : Heap) (locs : List Loc) (ls : Array Slot) (pc : Nat), va_P G vwCl (w_X5_image Y) H → va_D A (w_X5_image Y) → va_S A s.heap H locs → K r → decode cX5_image pc = .ok (.ireturn, 1) → W p l e R s m args below meth c H locs 0 0 Q (F0 m pc ls [.int r])) (hP : va_P G vwCl (w_X5_image Y) s.heap) (hD : va_D A (w_X5_image Y)) (h : pX5_image x0 x1 K) : W p l e R s m args below meth c s.heap [] 0 0 Q (entryFrame m ([.int x0, .int x1] : List Value).toArray 2) := by
  have hl := lv_entry ([.int x0, .int x1]) (n := 2) (Nat.le_of_ble_eq_true rfl)
  rw [lg_entry_eq]
  generalize (lg_sl ([.int x0, .int x1]) ++ List.replicate (2 - (lg_sl ([.int x0, .int x1])).length) Slot.unset).toArray = ls at hl ⊢
  have hl : lv_has ls 2 [(0, .int x0), (1, .int x1)] := hl
  generalize hH0 : s.heap = H at hP ⊢
  have hS : va_S A s.heap H [] := by rw [← hH0]; exact va_S.rf
  clear hH0
  generalize ([] : List Loc) = locs at hS ⊢
  refine lv_iload_n hx hb dX5_image_0 rfl (lv_at hl 0 rfl) ?_
  refine lv_iconst (v := 3) hx hb dX5_image_1 (by decide) ?_
  refine lv_iload_n hx hb dX5_image_2 rfl (lv_at hl 1 rfl) ?_
  refine lv_imul hx hb dX5_image_3 ?_
  refine lv_ishr hx hb dX5_image_4 ?_
  refine lv_bipush (v := 7) hx hb dX5_image_5 (by decide) ?_
  refine lv_iand hx hb dX5_image_7 ?_
  exact hret ((x0 >>> (((3 : Int32) * x1) &&& 31)) &&& (7 : Int32))  H locs ls _ hP hD hS h dX5_image_8

set_option maxHeartbeats 4000000 in
set_option maxRecDepth 100000 in
theorem c_X5_image (l : Launch) (G : va_G) (Y : Nat → ClassId) (tF sz : Nat) (x0 : Int32) (x1 : Int32) {K : Int32 → Prop} (h : pX5_image x0 x1 K) : Met l yX5_image wsX5_image ({ frames := 0, cells := 0, slots := 0, locals := 0 }) (PcM G Y tF sz (w_X5_image Y) [.int x0, .int x1]) (va_Qi (fun (r : Int32) (u : Unit) => K r ) (fun u t => BM G Y (va_A (w_X5_image Y) sz) (w_X5_image Y) t) (va_A (w_X5_image Y) sz)) 0 0 (va_A (w_X5_image Y) sz) := by
  refine Met.ofW (cc := cX5_image) (maxL := 2) (ret := (some .int)) (by decide +kernel) rfl ?_
  intro p e s m args below meth c s₁ B hml hv
  obtain ⟨rfl, hsz, hP, hK, hD0, hE⟩ := hv
  have hts := atoms_spec (ws := wsX5_image) B.pre
  have hown : s.vm.findClass RX5 = some m.cls := findClass_of_methodNamed B.named
  have hlocks := B.notSynchronized
  subst hsz
  have hD := hD0.self (sz := s.heap.size)
  exact wk_X5_image x0 x1 B.exec B.bytes hml hown hts hK hE (fun q h => Or.inr h) (Nat.le_refl _) (Nat.le_refl _) (fun r  H locs ls pc hP hD hS hk hd => W.iret (v := r) B.exec B.bytes B.returns (fun t ht hW => ⟨⟨r, (), rfl, hk, by rw [ht]; exact hP, va_K.moved hW.alike hK, hD⟩, hS.F ht⟩) hS.2.2 hd) hP hD h

abbrev w_X5_with (Y : Nat → ClassId) : va_W := []

set_option maxHeartbeats 4000000 in
set_option maxRecDepth 100000 in
theorem wk_X5_with {p : Program} {l : Launch} {e : Env} {R : Room} {s : State} {m : MethodId} {args : Array Value} {below : List Frame} {meth : Method} {c : Code} {Q : State → Prop} {G : va_G} {Y : Nat → ClassId} {tF : Nat} {A : Nat → Prop} (x0 : Int32) (x1 : Int32) (x2 : Int32) {K : Int32 → Prop} (hx : p.tables.exec = Jvm.exec) (hb : c.code = cX5_with) (hml : c.maxLocals = 3) (hown : s.vm.findClass RX5 = some m.cls) (hts : ∀ w ∈ wsX5_with, w.before args s = true) (hK : va_K G vwCl (tyL Y) s) (hE : Ev A tF s) (hA : ∀ q, s.heap.size ≤ q → A q) (hRf : 0 ≤ R.frames) (hRl : 0 ≤ R.locals) (hret : ∀ (r : Int32)  (H : Heap) (locs : List Loc) (ls : Array Slot) (pc : Nat), va_P G vwCl (w_X5_with Y) H → va_D A (w_X5_with Y) → va_S A s.heap H locs → K r → decode cX5_with pc = .ok (.ireturn, 1) → W p l e R s m args below meth c H locs 0 0 Q (F0 m pc ls [.int r])) (hP : va_P G vwCl (w_X5_with Y) s.heap) (hD : va_D A (w_X5_with Y)) (h : pX5_with x0 x1 x2 K) : W p l e R s m args below meth c s.heap [] 0 0 Q (entryFrame m ([.int x0, .int x1, .int x2] : List Value).toArray 3) := by
  have hl := lv_entry ([.int x0, .int x1, .int x2]) (n := 3) (Nat.le_of_ble_eq_true rfl)
  rw [lg_entry_eq]
  generalize (lg_sl ([.int x0, .int x1, .int x2]) ++ List.replicate (3 - (lg_sl ([.int x0, .int x1, .int x2])).length) Slot.unset).toArray = ls at hl ⊢
  have hl : lv_has ls 3 [(0, .int x0), (1, .int x1), (2, .int x2)] := hl
  generalize hH0 : s.heap = H at hP ⊢
  have hS : va_S A s.heap H [] := by rw [← hH0]; exact va_S.rf
  clear hH0
  generalize ([] : List Loc) = locs at hS ⊢
  refine lv_iload_n hx hb dX5_with_0 rfl (lv_at hl 0 rfl) ?_
  refine lv_iload_n hx hb dX5_with_1 rfl (lv_at hl 2 rfl) ?_
  refine lv_iconst (v := 3) hx hb dX5_with_2 (by decide) ?_
  refine lv_iload_n hx hb dX5_with_3 rfl (lv_at hl 1 rfl) ?_
  refine lv_imul hx hb dX5_with_4 ?_
  refine lv_ishl hx hb dX5_with_5 ?_
  refine lv_ior hx hb dX5_with_6 ?_
  exact hret (x0 ||| (x2 <<< (((3 : Int32) * x1) &&& 31)))  H locs ls _ hP hD hS h dX5_with_7

set_option maxHeartbeats 4000000 in
set_option maxRecDepth 100000 in
theorem c_X5_with (l : Launch) (G : va_G) (Y : Nat → ClassId) (tF sz : Nat) (x0 : Int32) (x1 : Int32) (x2 : Int32) {K : Int32 → Prop} (h : pX5_with x0 x1 x2 K) : Met l yX5_with wsX5_with ({ frames := 0, cells := 0, slots := 0, locals := 0 }) (PcM G Y tF sz (w_X5_with Y) [.int x0, .int x1, .int x2]) (va_Qi (fun (r : Int32) (u : Unit) => K r ) (fun u t => BM G Y (va_A (w_X5_with Y) sz) (w_X5_with Y) t) (va_A (w_X5_with Y) sz)) 0 0 (va_A (w_X5_with Y) sz) := by
  refine Met.ofW (cc := cX5_with) (maxL := 3) (ret := (some .int)) (by decide +kernel) rfl ?_
  intro p e s m args below meth c s₁ B hml hv
  obtain ⟨rfl, hsz, hP, hK, hD0, hE⟩ := hv
  have hts := atoms_spec (ws := wsX5_with) B.pre
  have hown : s.vm.findClass RX5 = some m.cls := findClass_of_methodNamed B.named
  have hlocks := B.notSynchronized
  subst hsz
  have hD := hD0.self (sz := s.heap.size)
  exact wk_X5_with x0 x1 x2 B.exec B.bytes hml hown hts hK hE (fun q h => Or.inr h) (Nat.le_refl _) (Nat.le_refl _) (fun r  H locs ls pc hP hD hS hk hd => W.iret (v := r) B.exec B.bytes B.returns (fun t ht hW => ⟨⟨r, (), rfl, hk, by rw [ht]; exact hP, va_K.moved hW.alike hK, hD⟩, hS.F ht⟩) hS.2.2 hd) hP hD h

abbrev w_X5_unusedNumber (Y : Nat → ClassId) : va_W := []

set_option maxHeartbeats 4000000 in
set_option maxRecDepth 100000 in
theorem wk_X5_unusedNumber {p : Program} {l : Launch} {e : Env} {R : Room} {s : State} {m : MethodId} {args : Array Value} {below : List Frame} {meth : Method} {c : Code} {Q : State → Prop} {G : va_G} {Y : Nat → ClassId} {tF : Nat} {A : Nat → Prop} (x0 : Int32) (x1 : Int32) {K : Int32 → Prop} (hx : p.tables.exec = Jvm.exec) (hb : c.code = cX5_unusedNumber) (hml : c.maxLocals = 4) (hown : s.vm.findClass RX5 = some m.cls) (hts : ∀ w ∈ wsX5_unusedNumber, w.before args s = true) (hK : va_K G vwCl (tyL Y) s) (hE : Ev A tF s) (hA : ∀ q, s.heap.size ≤ q → A q) (hRf : 0 ≤ R.frames) (hRl : 0 ≤ R.locals) (hret : ∀ (r : Int32)  (H : Heap) (locs : List Loc) (ls : Array Slot) (pc : Nat), va_P G vwCl (w_X5_unusedNumber Y) H → va_D A (w_X5_unusedNumber Y) → va_S A s.heap H locs → K r → decode cX5_unusedNumber pc = .ok (.ireturn, 1) → W p l e R s m args below meth c H locs 0 0 Q (F0 m pc ls [.int r])) (hP : va_P G vwCl (w_X5_unusedNumber Y) s.heap) (hD : va_D A (w_X5_unusedNumber Y)) (h : pX5_unusedNumber x0 x1 K) : W p l e R s m args below meth c s.heap [] 0 0 Q (entryFrame m ([.int x0, .int x1] : List Value).toArray 4) := by
  have hl := lv_entry ([.int x0, .int x1]) (n := 4) (Nat.le_of_ble_eq_true rfl)
  rw [lg_entry_eq]
  generalize (lg_sl ([.int x0, .int x1]) ++ List.replicate (4 - (lg_sl ([.int x0, .int x1])).length) Slot.unset).toArray = ls at hl ⊢
  have hl : lv_has ls 4 [(0, .int x0), (1, .int x1)] := hl
  generalize hH0 : s.heap = H at hP ⊢
  have hS : va_S A s.heap H [] := by rw [← hH0]; exact va_S.rf
  clear hH0
  generalize ([] : List Loc) = locs at hS ⊢
  refine lv_iload_n hx hb dX5_unusedNumber_0 rfl (lv_at hl 1 rfl) ?_
  refine lv_istore_n (lv' := [(2, .int x1), (0, .int x0), (1, .int x1)]) hx hb dX5_unusedNumber_1 rfl hl (by decide) rfl (fun ls hl => ?_)
  refine lv_iconst (v := 0) hx hb dX5_unusedNumber_2 (by decide) ?_
  refine lv_istore_n (lv' := [(3, .int (0 : Int32)), (2, .int x1), (0, .int x0), (1, .int x1)]) hx hb dX5_unusedNumber_3 rfl hl (by decide) rfl (fun ls hl => ?_)
  obtain ⟨I4, m4, hI4, hB4⟩ := h
  have L4 : ∀ (x0 : Int32) (I4 : Int32 → Int32 → Prop) (m4 : Int32 → Int32 → Nat), (∀ (x2 : Int32) (x3 : Int32), I4 x2 x3 → pX5_unusedNumber_4 K x0 x2 x3 (fun x2' x3' => I4 x2' x3' ∧ m4 x2' x3' < m4 x2 x3)) → ∀ (n : Nat) (x2 : Int32) (x3 : Int32) (H : Heap) (locs : List Loc) (ls : Array Slot), I4 x2 x3 → m4 x2 x3 < n → va_P G vwCl (w_X5_unusedNumber Y) H → va_D A (w_X5_unusedNumber Y) → va_S A s.heap H locs → lv_has ls 4 [(0, .int x0), (2, .int x2), (3, .int x3)] → W p l e R s m args below meth c H locs 0 0 Q (F0 m 4 ls []) := by
    intro x0 I4 m4 hB4 n
    induction n with
    | zero => intro x2 x3 H locs ls _ hm; exact absurd hm (Nat.not_lt_zero _)
    | succ n ih =>
      intro x2 x3 H locs ls hI hm hP hD hS hl
      obtain ⟨R4, h, rec4⟩ : ∃ R4 : Int32 → Int32 → Prop, pX5_unusedNumber_4 K x0 x2 x3 R4 ∧ ∀ (x2 : Int32) (x3 : Int32) (H : Heap) (locs : List Loc) (ls : Array Slot), R4 x2 x3 → va_P G vwCl (w_X5_unusedNumber Y) H → va_D A (w_X5_unusedNumber Y) → va_S A s.heap H locs → lv_has ls 4 [(0, .int x0), (2, .int x2), (3, .int x3)] → W p l e R s m args below meth c H locs 0 0 Q (F0 m 4 ls []) := ⟨_, hB4 x2 x3 hI, fun x2 x3 H locs ls hh hP hD hS hl => ih x2 x3 H locs ls hh.1 (Nat.lt_of_lt_of_le hh.2 (Nat.le_of_lt_succ hm)) hP hD hS hl⟩
      refine lv_iload_n hx hb dX5_unusedNumber_4 rfl (lv_at hl 2 rfl) ?_
      refine lv_bipush (v := 8) hx hb dX5_unusedNumber_5 (by decide) ?_
      obtain ⟨ht, hf⟩ := h
      refine lv_icmp_ge (tgt := 33) hx hb dX5_unusedNumber_7 (by decide) (fun c9 => ?_) (fun c9 => ?_)
      · have h := ht c9
        refine lv_iconst (v := 0) hx hb dX5_unusedNumber_33 (by decide) ?_
        exact hret (0 : Int32)  H locs ls _ hP hD hS h dX5_unusedNumber_34
      · have h := hf c9
        refine lv_iload_n hx hb dX5_unusedNumber_10 rfl (lv_at hl 0 rfl) ?_
        refine lv_iload_n hx hb dX5_unusedNumber_11 rfl (lv_at hl 2 rfl) ?_
        refine lv_ishr hx hb dX5_unusedNumber_12 ?_
        refine lv_iconst (v := 1) hx hb dX5_unusedNumber_13 (by decide) ?_
        refine lv_iand hx hb dX5_unusedNumber_14 ?_
        obtain ⟨ht, hf⟩ := h
        refine lv_if_ne (tgt := 27) hx hb dX5_unusedNumber_15 (by decide) (fun c9 => ?_) (fun c9 => ?_)
        · have h := ht c9
          refine lv_iinc (v := (x3 + 1)) (lv' := [(3, .int (x3 + 1)), (0, .int x0), (2, .int x2)]) hx hb dX5_unusedNumber_27 hl (k := 2) rfl rfl (by decide) rfl (fun ls hl => ?_)
          refine lv_goto (tgt := 4) hx hb dX5_unusedNumber_30 (by decide) ?_
          exact rec4 x2 (x3 + 1) H locs ls h hP hD hS (lv_sub hl [1, 2, 0] rfl)
        · have h := hf c9
          refine lv_iload_n hx hb dX5_unusedNumber_18 rfl (lv_at hl 1 rfl) ?_
          obtain ⟨ht, hf⟩ := h
          refine lv_if_ne (tgt := 24) hx hb dX5_unusedNumber_19 (by decide) (fun c9 => ?_) (fun c9 => ?_)
          · have h := ht c9
            refine lv_iinc (v := (x2 + (-1))) (lv' := [(2, .int (x2 + (-1))), (0, .int x0), (3, .int x3)]) hx hb dX5_unusedNumber_24 hl (k := 1) rfl rfl (by decide) rfl (fun ls hl => ?_)
            refine lv_iinc (v := (x3 + 1)) (lv' := [(3, .int (x3 + 1)), (2, .int (x2 + (-1))), (0, .int x0)]) hx hb dX5_unusedNumber_27 hl (k := 2) rfl rfl (by decide) rfl (fun ls hl => ?_)
            refine lv_goto (tgt := 4) hx hb dX5_unusedNumber_30 (by decide) ?_
            exact rec4 (x2 + (-1)) (x3 + 1) H locs ls h hP hD hS (lv_sub hl [2, 1, 0] rfl)
          · have h := hf c9
            refine lv_iload_n hx hb dX5_unusedNumber_22 rfl (lv_at hl 2 rfl) ?_
            exact hret x3  H locs ls _ hP hD hS h dX5_unusedNumber_23
  exact L4 x0 I4 m4 hB4 _ x1 (0 : Int32) H locs ls hI4 (Nat.lt_succ_self _) hP hD hS (lv_sub hl [2, 1, 0] rfl)

set_option maxHeartbeats 4000000 in
set_option maxRecDepth 100000 in
theorem c_X5_unusedNumber (l : Launch) (G : va_G) (Y : Nat → ClassId) (tF sz : Nat) (x0 : Int32) (x1 : Int32) {K : Int32 → Prop} (h : pX5_unusedNumber x0 x1 K) : Met l yX5_unusedNumber wsX5_unusedNumber ({ frames := 0, cells := 0, slots := 0, locals := 0 }) (PcM G Y tF sz (w_X5_unusedNumber Y) [.int x0, .int x1]) (va_Qi (fun (r : Int32) (u : Unit) => K r ) (fun u t => BM G Y (va_A (w_X5_unusedNumber Y) sz) (w_X5_unusedNumber Y) t) (va_A (w_X5_unusedNumber Y) sz)) 0 0 (va_A (w_X5_unusedNumber Y) sz) := by
  refine Met.ofW (cc := cX5_unusedNumber) (maxL := 4) (ret := (some .int)) (by decide +kernel) rfl ?_
  intro p e s m args below meth c s₁ B hml hv
  obtain ⟨rfl, hsz, hP, hK, hD0, hE⟩ := hv
  have hts := atoms_spec (ws := wsX5_unusedNumber) B.pre
  have hown : s.vm.findClass RX5 = some m.cls := findClass_of_methodNamed B.named
  have hlocks := B.notSynchronized
  subst hsz
  have hD := hD0.self (sz := s.heap.size)
  exact wk_X5_unusedNumber x0 x1 B.exec B.bytes hml hown hts hK hE (fun q h => Or.inr h) (Nat.le_refl _) (Nat.le_refl _) (fun r  H locs ls pc hP hD hS hk hd => W.iret (v := r) B.exec B.bytes B.returns (fun t ht hW => ⟨⟨r, (), rfl, hk, by rw [ht]; exact hP, va_K.moved hW.alike hK, hD⟩, hS.F ht⟩) hS.2.2 hd) hP hD h

abbrev w_X5_numbered (Y : Nat → ClassId) : va_W := []

set_option maxHeartbeats 4000000 in
set_option maxRecDepth 100000 in
theorem wk_X5_numbered {p : Program} {l : Launch} {e : Env} {R : Room} {s : State} {m : MethodId} {args : Array Value} {below : List Frame} {meth : Method} {c : Code} {Q : State → Prop} {G : va_G} {Y : Nat → ClassId} {tF : Nat} {A : Nat → Prop} (x0 : Int32) (x1 : Int32) {K : Int32 → Prop} (hx : p.tables.exec = Jvm.exec) (hb : c.code = cX5_numbered) (hml : c.maxLocals = 8) (hown : s.vm.findClass RX5 = some m.cls) (hts : ∀ w ∈ wsX5_numbered, w.before args s = true) (hK : va_K G vwCl (tyL Y) s) (hE : Ev A tF s) (hA : ∀ q, s.heap.size ≤ q → A q) (hRf : 1 ≤ R.frames) (hRl : 23 ≤ R.locals) (hret : ∀ (r : Int32)  (H : Heap) (locs : List Loc) (ls : Array Slot) (pc : Nat), va_P G vwCl (w_X5_numbered Y) H → va_D A (w_X5_numbered Y) → va_S A s.heap H locs → K r → decode cX5_numbered pc = .ok (.ireturn, 1) → W p l e R s m args below meth c H locs 0 0 Q (F0 m pc ls [.int r])) (hP : va_P G vwCl (w_X5_numbered Y) s.heap) (hD : va_D A (w_X5_numbered Y)) (h : pX5_numbered x0 x1 K) : W p l e R s m args below meth c s.heap [] 0 0 Q (entryFrame m ([.int x0, .int x1] : List Value).toArray 8) := by
  have hl := lv_entry ([.int x0, .int x1]) (n := 8) (Nat.le_of_ble_eq_true rfl)
  rw [lg_entry_eq]
  generalize (lg_sl ([.int x0, .int x1]) ++ List.replicate (8 - (lg_sl ([.int x0, .int x1])).length) Slot.unset).toArray = ls at hl ⊢
  have hl : lv_has ls 8 [(0, .int x0), (1, .int x1)] := hl
  generalize hH0 : s.heap = H at hP ⊢
  have hS : va_S A s.heap H [] := by rw [← hH0]; exact va_S.rf
  clear hH0
  generalize ([] : List Loc) = locs at hS ⊢
  refine lv_iconst (v := 0) hx hb dX5_numbered_0 (by decide) ?_
  refine lv_istore_n (lv' := [(2, .int (0 : Int32)), (0, .int x0), (1, .int x1)]) hx hb dX5_numbered_1 rfl hl (by decide) rfl (fun ls hl => ?_)
  refine lv_iconst (v := 0) hx hb dX5_numbered_2 (by decide) ?_
  refine lv_istore_n (lv' := [(3, .int (0 : Int32)), (2, .int (0 : Int32)), (0, .int x0), (1, .int x1)]) hx hb dX5_numbered_3 rfl hl (by decide) rfl (fun ls hl => ?_)
  refine lv_iload_n hx hb dX5_numbered_4 rfl (lv_at hl 3 rfl) ?_
  refine lv_istore (lv' := [(4, .int x1), (3, .int (0 : Int32)), (2, .int (0 : Int32)), (0, .int x0), (1, .int x1)]) hx hb dX5_numbered_5 hl (by decide) rfl (fun ls hl => ?_)
  refine lv_iconst (v := 0) hx hb dX5_numbered_7 (by decide) ?_
  refine lv_istore (lv' := [(5, .int (0 : Int32)), (4, .int x1), (3, .int (0 : Int32)), (2, .int (0 : Int32)), (0, .int x0), (1, .int x1)]) hx hb dX5_numbered_8 hl (by decide) rfl (fun ls hl => ?_)
  obtain ⟨I10, m10, hI10, hB10⟩ := h
  have L10 : ∀ (x0 : Int32) (I10 : Int32 → Int32 → Int32 → Int32 → Prop) (m10 : Int32 → Int32 → Int32 → Int32 → Nat), (∀ (x2 : Int32) (x3 : Int32) (x4 : Int32) (x5 : Int32), I10 x2 x3 x4 x5 → pX5_numbered_10 K x0 x2 x3 x4 x5 (fun x2' x3' x4' x5' => I10 x2' x3' x4' x5' ∧ m10 x2' x3' x4' x5' < m10 x2 x3 x4 x5)) → ∀ (n : Nat) (x2 : Int32) (x3 : Int32) (x4 : Int32) (x5 : Int32) (H : Heap) (locs : List Loc) (ls : Array Slot), I10 x2 x3 x4 x5 → m10 x2 x3 x4 x5 < n → va_P G vwCl (w_X5_numbered Y) H → va_D A (w_X5_numbered Y) → va_S A s.heap H locs → lv_has ls 8 [(0, .int x0), (2, .int x2), (3, .int x3), (4, .int x4), (5, .int x5)] → W p l e R s m args below meth c H locs 0 0 Q (F0 m 10 ls []) := by
    intro x0 I10 m10 hB10 n
    induction n with
    | zero => intro x2 x3 x4 x5 H locs ls _ hm; exact absurd hm (Nat.not_lt_zero _)
    | succ n ih =>
      intro x2 x3 x4 x5 H locs ls hI hm hP hD hS hl
      obtain ⟨R10, h, rec10⟩ : ∃ R10 : Int32 → Int32 → Int32 → Int32 → Prop, pX5_numbered_10 K x0 x2 x3 x4 x5 R10 ∧ ∀ (x2 : Int32) (x3 : Int32) (x4 : Int32) (x5 : Int32) (H : Heap) (locs : List Loc) (ls : Array Slot), R10 x2 x3 x4 x5 → va_P G vwCl (w_X5_numbered Y) H → va_D A (w_X5_numbered Y) → va_S A s.heap H locs → lv_has ls 8 [(0, .int x0), (2, .int x2), (3, .int x3), (4, .int x4), (5, .int x5)] → W p l e R s m args below meth c H locs 0 0 Q (F0 m 10 ls []) := ⟨_, hB10 x2 x3 x4 x5 hI, fun x2 x3 x4 x5 H locs ls hh hP hD hS hl => ih x2 x3 x4 x5 H locs ls hh.1 (Nat.lt_of_lt_of_le hh.2 (Nat.le_of_lt_succ hm)) hP hD hS hl⟩
      refine lv_iload hx hb dX5_numbered_10 (lv_at hl 4 rfl) ?_
      refine lv_iload_n hx hb dX5_numbered_12 rfl (lv_at hl 0 rfl) ?_
      obtain ⟨ht, hf⟩ := h
      refine lv_icmp_ge (tgt := 68) hx hb dX5_numbered_13 (by decide) (fun c9 => ?_) (fun c9 => ?_)
      · have h := ht c9
        refine lv_iload_n hx hb dX5_numbered_68 rfl (lv_at hl 1 rfl) ?_
        exact hret x2  H locs ls _ hP hD hS h dX5_numbered_69
      · have h := hf c9
        refine va_getsN hx hb hE.2.1 hS hown (hE.nest args 11 _ rfl) (fun _ h9 => h9) dX5_numbered_16 ?_
        refine lv_iload_n hx hb dX5_numbered_19 rfl (lv_at hl 0 rfl) ?_
        refine lv_iconst (v := 1) hx hb dX5_numbered_20 (by decide) ?_
        refine lv_isub hx hb dX5_numbered_21 ?_
        refine lv_iload hx hb dX5_numbered_22 (lv_at hl 4 rfl) ?_
        refine lv_isub hx hb dX5_numbered_24 ?_
        obtain ⟨hin, h⟩ := h
        refine va_ti hx hb hE.2.2 hS hin rfl dX5_numbered_25 ?_
        refine lv_istore (lv' := [(6, .int (fct (Int32.toNatClampNeg ((x0 - (1 : Int32)) - x5)))), (0, .int x0), (2, .int x2), (3, .int x3), (4, .int x4), (5, .int x5)]) hx hb dX5_numbered_26 hl (by decide) rfl (fun ls hl => ?_)
        refine lv_iload_n hx hb dX5_numbered_28 rfl (lv_at hl 3 rfl) ?_
        refine lv_iload hx hb dX5_numbered_29 (lv_at hl 4 rfl) ?_
        refine lv_iload hx hb dX5_numbered_31 (lv_at hl 0 rfl) ?_
        obtain ⟨hne, h⟩ := h
        refine lv_idiv hx hb dX5_numbered_33 hne ?_
        refine mc_iS ⟨hx, hb, hml, hown, hts⟩ hK hE hA hP hD hS (c_X5_unusedNumber l G Y tF H.size x3 (x4 / (fct (Int32.toNatClampNeg ((x0 - (1 : Int32)) - x5)))) h) (va_cwS 2 hts gX5_numbered_X5_unusedNumber rfl rfl rfl (by decide +kernel) ⟨Nat.le_trans (by decide) hRf, Nat.le_trans (by decide) hRl⟩) (fun u => (w_X5_numbered Y)) [] [] [] rfl rfl rfl rfl (by decide) (fun _ => rfl) rfl rfl hl.1 rfl (Nat.le_of_ble_eq_true rfl) dX5_numbered_34 (fun r34 u H locs h hP hD hS => ?_)
        try dsimp only at h
        have hP : va_P G vwCl (w_X5_numbered Y) H := hP
        have hD : va_D A (w_X5_numbered Y) := hD
        refine lv_istore (lv' := [(7, .int r34), (6, .int (fct (Int32.toNatClampNeg ((x0 - (1 : Int32)) - x5)))), (0, .int x0), (2, .int x2), (3, .int x3), (4, .int x4), (5, .int x5)]) hx hb dX5_numbered_37 hl (by decide) rfl (fun ls hl => ?_)
        refine lv_iload hx hb dX5_numbered_39 (lv_at hl 5 rfl) ?_
        refine lv_iload hx hb dX5_numbered_41 (lv_at hl 1 rfl) ?_
        obtain ⟨hne, h⟩ := h
        refine lv_irem hx hb dX5_numbered_43 hne ?_
        refine lv_istore (lv' := [(4, .int (x4 - x4 / (fct (Int32.toNatClampNeg ((x0 - (1 : Int32)) - x5))) * (fct (Int32.toNatClampNeg ((x0 - (1 : Int32)) - x5))))), (7, .int r34), (6, .int (fct (Int32.toNatClampNeg ((x0 - (1 : Int32)) - x5)))), (0, .int x0), (2, .int x2), (3, .int x3), (5, .int x5)]) hx hb dX5_numbered_44 hl (by decide) rfl (fun ls hl => ?_)
        refine lv_iload_n hx hb dX5_numbered_46 rfl (lv_at hl 5 rfl) ?_
        refine lv_iconst (v := 1) hx hb dX5_numbered_47 (by decide) ?_
        refine lv_iload hx hb dX5_numbered_48 (lv_at hl 1 rfl) ?_
        refine lv_ishl hx hb dX5_numbered_50 ?_
        refine lv_ior hx hb dX5_numbered_51 ?_
        refine lv_istore_n (lv' := [(3, .int (x3 ||| ((1 : Int32) <<< (r34 &&& 31)))), (4, .int (x4 - x4 / (fct (Int32.toNatClampNeg ((x0 - (1 : Int32)) - x5))) * (fct (Int32.toNatClampNeg ((x0 - (1 : Int32)) - x5))))), (7, .int r34), (6, .int (fct (Int32.toNatClampNeg ((x0 - (1 : Int32)) - x5)))), (0, .int x0), (2, .int x2), (5, .int x5)]) hx hb dX5_numbered_52 rfl hl (by decide) rfl (fun ls hl => ?_)
        refine lv_iload_n hx hb dX5_numbered_53 rfl (lv_at hl 5 rfl) ?_
        refine lv_iload hx hb dX5_numbered_54 (lv_at hl 6 rfl) ?_
        refine lv_iload hx hb dX5_numbered_56 (lv_at hl 2 rfl) ?_
        refine mc_iS ⟨hx, hb, hml, hown, hts⟩ hK hE hA hP hD hS (c_X5_with l G Y tF H.size x2 x5 r34 h) (va_cwS 3 hts gX5_numbered_X5_with rfl rfl rfl (by decide +kernel) ⟨Nat.le_trans (by decide) hRf, Nat.le_trans (by decide) hRl⟩) (fun u => (w_X5_numbered Y)) [] [] [] rfl rfl rfl rfl (by decide) (fun _ => rfl) rfl rfl hl.1 rfl (Nat.le_of_ble_eq_true rfl) dX5_numbered_58 (fun r58 u H locs h hP hD hS => ?_)
        try dsimp only at h
        have hP : va_P G vwCl (w_X5_numbered Y) H := hP
        have hD : va_D A (w_X5_numbered Y) := hD
        refine lv_istore_n (lv' := [(2, .int r58), (3, .int (x3 ||| ((1 : Int32) <<< (r34 &&& 31)))), (4, .int (x4 - x4 / (fct (Int32.toNatClampNeg ((x0 - (1 : Int32)) - x5))) * (fct (Int32.toNatClampNeg ((x0 - (1 : Int32)) - x5))))), (7, .int r34), (6, .int (fct (Int32.toNatClampNeg ((x0 - (1 : Int32)) - x5)))), (0, .int x0), (5, .int x5)]) hx hb dX5_numbered_61 rfl hl (by decide) rfl (fun ls hl => ?_)
        refine lv_iinc (v := (x5 + 1)) (lv' := [(5, .int (x5 + 1)), (2, .int r58), (3, .int (x3 ||| ((1 : Int32) <<< (r34 &&& 31)))), (4, .int (x4 - x4 / (fct (Int32.toNatClampNeg ((x0 - (1 : Int32)) - x5))) * (fct (Int32.toNatClampNeg ((x0 - (1 : Int32)) - x5))))), (7, .int r34), (6, .int (fct (Int32.toNatClampNeg ((x0 - (1 : Int32)) - x5)))), (0, .int x0)]) hx hb dX5_numbered_62 hl (k := 6) rfl rfl (by decide) rfl (fun ls hl => ?_)
        refine lv_goto (tgt := 10) hx hb dX5_numbered_65 (by decide) ?_
        exact rec10 r58 (x3 ||| ((1 : Int32) <<< (r34 &&& 31))) (x4 - x4 / (fct (Int32.toNatClampNeg ((x0 - (1 : Int32)) - x5))) * (fct (Int32.toNatClampNeg ((x0 - (1 : Int32)) - x5)))) (x5 + 1) H locs ls h hP hD hS (lv_sub hl [6, 1, 2, 3, 0] rfl)
  exact L10 x0 I10 m10 hB10 _ (0 : Int32) (0 : Int32) x1 (0 : Int32) H locs ls hI10 (Nat.lt_succ_self _) hP hD hS (lv_sub hl [4, 3, 2, 1, 0] rfl)

set_option maxHeartbeats 4000000 in
set_option maxRecDepth 100000 in
theorem c_X5_numbered (l : Launch) (G : va_G) (Y : Nat → ClassId) (tF sz : Nat) (x0 : Int32) (x1 : Int32) {K : Int32 → Prop} (h : pX5_numbered x0 x1 K) : Met l yX5_numbered wsX5_numbered ({ frames := 1, cells := 0, slots := 0, locals := 23 }) (PcM G Y tF sz (w_X5_numbered Y) [.int x0, .int x1]) (va_Qi (fun (r : Int32) (u : Unit) => K r ) (fun u t => BM G Y (va_A (w_X5_numbered Y) sz) (w_X5_numbered Y) t) (va_A (w_X5_numbered Y) sz)) 0 0 (va_A (w_X5_numbered Y) sz) := by
  refine Met.ofW (cc := cX5_numbered) (maxL := 8) (ret := (some .int)) (by decide +kernel) rfl ?_
  intro p e s m args below meth c s₁ B hml hv
  obtain ⟨rfl, hsz, hP, hK, hD0, hE⟩ := hv
  have hts := atoms_spec (ws := wsX5_numbered) B.pre
  have hown : s.vm.findClass RX5 = some m.cls := findClass_of_methodNamed B.named
  have hlocks := B.notSynchronized
  subst hsz
  have hD := hD0.self (sz := s.heap.size)
  exact wk_X5_numbered x0 x1 B.exec B.bytes hml hown hts hK hE (fun q h => Or.inr h) (Nat.le_refl _) (Nat.le_refl _) (fun r  H locs ls pc hP hD hS hk hd => W.iret (v := r) B.exec B.bytes B.returns (fun t ht hW => ⟨⟨r, (), rfl, hk, by rw [ht]; exact hP, va_K.moved hW.alike hK, hD⟩, hS.F ht⟩) hS.2.2 hd) hP hD h

abbrev w_X5_identity (Y : Nat → ClassId) : va_W := []

set_option maxHeartbeats 4000000 in
set_option maxRecDepth 100000 in
theorem wk_X5_identity {p : Program} {l : Launch} {e : Env} {R : Room} {s : State} {m : MethodId} {args : Array Value} {below : List Frame} {meth : Method} {c : Code} {Q : State → Prop} {G : va_G} {Y : Nat → ClassId} {tF : Nat} {A : Nat → Prop} (x0 : Int32) {K : Int32 → Prop} (hx : p.tables.exec = Jvm.exec) (hb : c.code = cX5_identity) (hml : c.maxLocals = 1) (hown : s.vm.findClass RX5 = some m.cls) (hts : ∀ w ∈ wsX5_identity, w.before args s = true) (hK : va_K G vwCl (tyL Y) s) (hE : Ev A tF s) (hA : ∀ q, s.heap.size ≤ q → A q) (hRf : 2 ≤ R.frames) (hRl : 50 ≤ R.locals) (hret : ∀ (r : Int32)  (H : Heap) (locs : List Loc) (ls : Array Slot) (pc : Nat), va_P G vwCl (w_X5_identity Y) H → va_D A (w_X5_identity Y) → va_S A s.heap H locs → K r → decode cX5_identity pc = .ok (.ireturn, 1) → W p l e R s m args below meth c H locs 0 0 Q (F0 m pc ls [.int r])) (hP : va_P G vwCl (w_X5_identity Y) s.heap) (hD : va_D A (w_X5_identity Y)) (h : pX5_identity x0 K) : W p l e R s m args below meth c s.heap [] 0 0 Q (entryFrame m ([.int x0] : List Value).toArray 1) := by
  have hl := lv_entry ([.int x0]) (n := 1) (Nat.le_of_ble_eq_true rfl)
  rw [lg_entry_eq]
  generalize (lg_sl ([.int x0]) ++ List.replicate (1 - (lg_sl ([.int x0])).length) Slot.unset).toArray = ls at hl ⊢
  have hl : lv_has ls 1 [(0, .int x0)] := hl
  generalize hH0 : s.heap = H at hP ⊢
  have hS : va_S A s.heap H [] := by rw [← hH0]; exact va_S.rf
  clear hH0
  generalize ([] : List Loc) = locs at hS ⊢
  refine lv_iload_n hx hb dX5_identity_0 rfl (lv_at hl 0 rfl) ?_
  refine lv_iconst (v := 0) hx hb dX5_identity_1 (by decide) ?_
  refine mc_iS ⟨hx, hb, hml, hown, hts⟩ hK hE hA hP hD hS (c_X5_numbered l G Y tF H.size x0 (0 : Int32) h) (va_cwS 2 hts gX5_identity_X5_numbered rfl rfl rfl (by decide +kernel) ⟨Nat.le_trans (by decide) hRf, Nat.le_trans (by decide) hRl⟩) (fun u => (w_X5_identity Y)) [] [] [] rfl rfl rfl rfl (by decide) (fun _ => rfl) rfl rfl hl.1 rfl (Nat.le_of_ble_eq_true rfl) dX5_identity_2 (fun r2 u H locs h hP hD hS => ?_)
  try dsimp only at h
  have hP : va_P G vwCl (w_X5_identity Y) H := hP
  have hD : va_D A (w_X5_identity Y) := hD
  exact hret r2  H locs ls _ hP hD hS h dX5_identity_5

set_option maxHeartbeats 4000000 in
set_option maxRecDepth 100000 in
theorem c_X5_identity (l : Launch) (G : va_G) (Y : Nat → ClassId) (tF sz : Nat) (x0 : Int32) {K : Int32 → Prop} (h : pX5_identity x0 K) : Met l yX5_identity wsX5_identity ({ frames := 2, cells := 0, slots := 0, locals := 50 }) (PcM G Y tF sz (w_X5_identity Y) [.int x0]) (va_Qi (fun (r : Int32) (u : Unit) => K r ) (fun u t => BM G Y (va_A (w_X5_identity Y) sz) (w_X5_identity Y) t) (va_A (w_X5_identity Y) sz)) 0 0 (va_A (w_X5_identity Y) sz) := by
  refine Met.ofW (cc := cX5_identity) (maxL := 1) (ret := (some .int)) (by decide +kernel) rfl ?_
  intro p e s m args below meth c s₁ B hml hv
  obtain ⟨rfl, hsz, hP, hK, hD0, hE⟩ := hv
  have hts := atoms_spec (ws := wsX5_identity) B.pre
  have hown : s.vm.findClass RX5 = some m.cls := findClass_of_methodNamed B.named
  have hlocks := B.notSynchronized
  subst hsz
  have hD := hD0.self (sz := s.heap.size)
  exact wk_X5_identity x0 B.exec B.bytes hml hown hts hK hE (fun q h => Or.inr h) (Nat.le_refl _) (Nat.le_refl _) (fun r  H locs ls pc hP hD hS hk hd => W.iret (v := r) B.exec B.bytes B.returns (fun t ht hW => ⟨⟨r, (), rfl, hk, by rw [ht]; exact hP, va_K.moved hW.alike hK, hD⟩, hS.F ht⟩) hS.2.2 hd) hP hD h

abbrev w_X5_after (Y : Nat → ClassId) : va_W := []

set_option maxHeartbeats 4000000 in
set_option maxRecDepth 100000 in
theorem wk_X5_after {p : Program} {l : Launch} {e : Env} {R : Room} {s : State} {m : MethodId} {args : Array Value} {below : List Frame} {meth : Method} {c : Code} {Q : State → Prop} {G : va_G} {Y : Nat → ClassId} {tF : Nat} {A : Nat → Prop} (x0 : Int32) (x1 : Int32) (x2 : Int32) {K : Int32 → Prop} (hx : p.tables.exec = Jvm.exec) (hb : c.code = cX5_after) (hml : c.maxLocals = 5) (hown : s.vm.findClass RX5 = some m.cls) (hts : ∀ w ∈ wsX5_after, w.before args s = true) (hK : va_K G vwCl (tyL Y) s) (hE : Ev A tF s) (hA : ∀ q, s.heap.size ≤ q → A q) (hRf : 1 ≤ R.frames) (hRl : 22 ≤ R.locals) (hret : ∀ (r : Int32)  (H : Heap) (locs : List Loc) (ls : Array Slot) (pc : Nat), va_P G vwCl (w_X5_after Y) H → va_D A (w_X5_after Y) → va_S A s.heap H locs → K r → decode cX5_after pc = .ok (.ireturn, 1) → W p l e R s m args below meth c H locs 0 0 Q (F0 m pc ls [.int r])) (hP : va_P G vwCl (w_X5_after Y) s.heap) (hD : va_D A (w_X5_after Y)) (h : pX5_after x0 x1 x2 K) : W p l e R s m args below meth c s.heap [] 0 0 Q (entryFrame m ([.int x0, .int x1, .int x2] : List Value).toArray 5) := by
  have hl := lv_entry ([.int x0, .int x1, .int x2]) (n := 5) (Nat.le_of_ble_eq_true rfl)
  rw [lg_entry_eq]
  generalize (lg_sl ([.int x0, .int x1, .int x2]) ++ List.replicate (5 - (lg_sl ([.int x0, .int x1, .int x2])).length) Slot.unset).toArray = ls at hl ⊢
  have hl : lv_has ls 5 [(0, .int x0), (1, .int x1), (2, .int x2)] := hl
  generalize hH0 : s.heap = H at hP ⊢
  have hS : va_S A s.heap H [] := by rw [← hH0]; exact va_S.rf
  clear hH0
  generalize ([] : List Loc) = locs at hS ⊢
  refine lv_iconst (v := 0) hx hb dX5_after_0 (by decide) ?_
  refine lv_istore_n (lv' := [(3, .int (0 : Int32)), (0, .int x0), (1, .int x1), (2, .int x2)]) hx hb dX5_after_1 rfl hl (by decide) rfl (fun ls hl => ?_)
  refine lv_iconst (v := 0) hx hb dX5_after_2 (by decide) ?_
  refine lv_istore (lv' := [(4, .int (0 : Int32)), (3, .int (0 : Int32)), (0, .int x0), (1, .int x1), (2, .int x2)]) hx hb dX5_after_3 hl (by decide) rfl (fun ls hl => ?_)
  obtain ⟨I5, m5, hI5, hB5⟩ := h
  have L5 : ∀ (x0 : Int32) (x1 : Int32) (x2 : Int32) (I5 : Int32 → Int32 → Prop) (m5 : Int32 → Int32 → Nat), (∀ (x3 : Int32) (x4 : Int32), I5 x3 x4 → pX5_after_5 K x0 x1 x2 x3 x4 (fun x3' x4' => I5 x3' x4' ∧ m5 x3' x4' < m5 x3 x4)) → ∀ (n : Nat) (x3 : Int32) (x4 : Int32) (H : Heap) (locs : List Loc) (ls : Array Slot), I5 x3 x4 → m5 x3 x4 < n → va_P G vwCl (w_X5_after Y) H → va_D A (w_X5_after Y) → va_S A s.heap H locs → lv_has ls 5 [(0, .int x0), (1, .int x1), (2, .int x2), (3, .int x3), (4, .int x4)] → W p l e R s m args below meth c H locs 0 0 Q (F0 m 5 ls []) := by
    intro x0 x1 x2 I5 m5 hB5 n
    induction n with
    | zero => intro x3 x4 H locs ls _ hm; exact absurd hm (Nat.not_lt_zero _)
    | succ n ih =>
      intro x3 x4 H locs ls hI hm hP hD hS hl
      obtain ⟨R5, h, rec5⟩ : ∃ R5 : Int32 → Int32 → Prop, pX5_after_5 K x0 x1 x2 x3 x4 R5 ∧ ∀ (x3 : Int32) (x4 : Int32) (H : Heap) (locs : List Loc) (ls : Array Slot), R5 x3 x4 → va_P G vwCl (w_X5_after Y) H → va_D A (w_X5_after Y) → va_S A s.heap H locs → lv_has ls 5 [(0, .int x0), (1, .int x1), (2, .int x2), (3, .int x3), (4, .int x4)] → W p l e R s m args below meth c H locs 0 0 Q (F0 m 5 ls []) := ⟨_, hB5 x3 x4 hI, fun x3 x4 H locs ls hh hP hD hS hl => ih x3 x4 H locs ls hh.1 (Nat.lt_of_lt_of_le hh.2 (Nat.le_of_lt_succ hm)) hP hD hS hl⟩
      refine lv_iload hx hb dX5_after_5 (lv_at hl 4 rfl) ?_
      refine lv_iload_n hx hb dX5_after_7 rfl (lv_at hl 2 rfl) ?_
      obtain ⟨ht, hf⟩ := h
      refine lv_icmp_ge (tgt := 34) hx hb dX5_after_8 (by decide) (fun c9 => ?_) (fun c9 => ?_)
      · have h := ht c9
        refine lv_iload_n hx hb dX5_after_34 rfl (lv_at hl 3 rfl) ?_
        exact hret x3  H locs ls _ hP hD hS h dX5_after_35
      · have h := hf c9
        refine lv_iload_n hx hb dX5_after_11 rfl (lv_at hl 3 rfl) ?_
        refine lv_iload hx hb dX5_after_12 (lv_at hl 4 rfl) ?_
        refine lv_iload_n hx hb dX5_after_14 rfl (lv_at hl 0 rfl) ?_
        refine lv_iload_n hx hb dX5_after_15 rfl (lv_at hl 1 rfl) ?_
        refine lv_iload hx hb dX5_after_16 (lv_at hl 4 rfl) ?_
        refine mc_iS ⟨hx, hb, hml, hown, hts⟩ hK hE hA hP hD hS (c_X5_image l G Y tF H.size x1 x4 h) (va_cwS 2 hts gX5_after_X5_image rfl rfl rfl (by decide +kernel) ⟨Nat.le_trans (by decide) hRf, Nat.le_trans (by decide) hRl⟩) (fun u => (w_X5_after Y)) [] [] [] rfl rfl rfl rfl (by decide) (fun _ => rfl) rfl rfl hl.1 rfl (Nat.le_of_ble_eq_true rfl) dX5_after_18 (fun r18 u H locs h hP hD hS => ?_)
        try dsimp only at h
        have hP : va_P G vwCl (w_X5_after Y) H := hP
        have hD : va_D A (w_X5_after Y) := hD
        refine mc_iS ⟨hx, hb, hml, hown, hts⟩ hK hE hA hP hD hS (c_X5_image l G Y tF H.size x0 r18 h) (va_cwS 2 hts gX5_after_X5_image rfl rfl rfl (by decide +kernel) ⟨Nat.le_trans (by decide) hRf, Nat.le_trans (by decide) hRl⟩) (fun u => (w_X5_after Y)) [] [] [] rfl rfl rfl rfl (by decide) (fun _ => rfl) rfl rfl hl.1 rfl (Nat.le_of_ble_eq_true rfl) dX5_after_21 (fun r21 u H locs h hP hD hS => ?_)
        try dsimp only at h
        have hP : va_P G vwCl (w_X5_after Y) H := hP
        have hD : va_D A (w_X5_after Y) := hD
        refine mc_iS ⟨hx, hb, hml, hown, hts⟩ hK hE hA hP hD hS (c_X5_with l G Y tF H.size x3 x4 r21 h) (va_cwS 3 hts gX5_after_X5_with rfl rfl rfl (by decide +kernel) ⟨Nat.le_trans (by decide) hRf, Nat.le_trans (by decide) hRl⟩) (fun u => (w_X5_after Y)) [] [] [] rfl rfl rfl rfl (by decide) (fun _ => rfl) rfl rfl hl.1 rfl (Nat.le_of_ble_eq_true rfl) dX5_after_24 (fun r24 u H locs h hP hD hS => ?_)
        try dsimp only at h
        have hP : va_P G vwCl (w_X5_after Y) H := hP
        have hD : va_D A (w_X5_after Y) := hD
        refine lv_istore_n (lv' := [(3, .int r24), (0, .int x0), (1, .int x1), (2, .int x2), (4, .int x4)]) hx hb dX5_after_27 rfl hl (by decide) rfl (fun ls hl => ?_)
        refine lv_iinc (v := (x4 + 1)) (lv' := [(4, .int (x4 + 1)), (3, .int r24), (0, .int x0), (1, .int x1), (2, .int x2)]) hx hb dX5_after_28 hl (k := 4) rfl rfl (by decide) rfl (fun ls hl => ?_)
        refine lv_goto (tgt := 5) hx hb dX5_after_31 (by decide) ?_
        exact rec5 r24 (x4 + 1) H locs ls h hP hD hS (lv_sub hl [2, 3, 4, 1, 0] rfl)
  exact L5 x0 x1 x2 I5 m5 hB5 _ (0 : Int32) (0 : Int32) H locs ls hI5 (Nat.lt_succ_self _) hP hD hS (lv_sub hl [2, 3, 4, 1, 0] rfl)

set_option maxHeartbeats 4000000 in
set_option maxRecDepth 100000 in
theorem c_X5_after (l : Launch) (G : va_G) (Y : Nat → ClassId) (tF sz : Nat) (x0 : Int32) (x1 : Int32) (x2 : Int32) {K : Int32 → Prop} (h : pX5_after x0 x1 x2 K) : Met l yX5_after wsX5_after ({ frames := 1, cells := 0, slots := 0, locals := 22 }) (PcM G Y tF sz (w_X5_after Y) [.int x0, .int x1, .int x2]) (va_Qi (fun (r : Int32) (u : Unit) => K r ) (fun u t => BM G Y (va_A (w_X5_after Y) sz) (w_X5_after Y) t) (va_A (w_X5_after Y) sz)) 0 0 (va_A (w_X5_after Y) sz) := by
  refine Met.ofW (cc := cX5_after) (maxL := 5) (ret := (some .int)) (by decide +kernel) rfl ?_
  intro p e s m args below meth c s₁ B hml hv
  obtain ⟨rfl, hsz, hP, hK, hD0, hE⟩ := hv
  have hts := atoms_spec (ws := wsX5_after) B.pre
  have hown : s.vm.findClass RX5 = some m.cls := findClass_of_methodNamed B.named
  have hlocks := B.notSynchronized
  subst hsz
  have hD := hD0.self (sz := s.heap.size)
  exact wk_X5_after x0 x1 x2 B.exec B.bytes hml hown hts hK hE (fun q h => Or.inr h) (Nat.le_refl _) (Nat.le_refl _) (fun r  H locs ls pc hP hD hS hk hd => W.iret (v := r) B.exec B.bytes B.returns (fun t ht hW => ⟨⟨r, (), rfl, hk, by rw [ht]; exact hP, va_K.moved hW.alike hK, hD⟩, hS.F ht⟩) hS.2.2 hd) hP hD h

abbrev w_X5_contrary (Y : Nat → ClassId) : va_W := []

set_option maxHeartbeats 4000000 in
set_option maxRecDepth 100000 in
theorem wk_X5_contrary {p : Program} {l : Launch} {e : Env} {R : Room} {s : State} {m : MethodId} {args : Array Value} {below : List Frame} {meth : Method} {c : Code} {Q : State → Prop} {G : va_G} {Y : Nat → ClassId} {tF : Nat} {A : Nat → Prop} (x0 : Int32) (x1 : Int32) {K : Int32 → Prop} (hx : p.tables.exec = Jvm.exec) (hb : c.code = cX5_contrary) (hml : c.maxLocals = 4) (hown : s.vm.findClass RX5 = some m.cls) (hts : ∀ w ∈ wsX5_contrary, w.before args s = true) (hK : va_K G vwCl (tyL Y) s) (hE : Ev A tF s) (hA : ∀ q, s.heap.size ≤ q → A q) (hRf : 1 ≤ R.frames) (hRl : 22 ≤ R.locals) (hret : ∀ (r : Int32)  (H : Heap) (locs : List Loc) (ls : Array Slot) (pc : Nat), va_P G vwCl (w_X5_contrary Y) H → va_D A (w_X5_contrary Y) → va_S A s.heap H locs → K r → decode cX5_contrary pc = .ok (.ireturn, 1) → W p l e R s m args below meth c H locs 0 0 Q (F0 m pc ls [.int r])) (hP : va_P G vwCl (w_X5_contrary Y) s.heap) (hD : va_D A (w_X5_contrary Y)) (h : pX5_contrary x0 x1 K) : W p l e R s m args below meth c s.heap [] 0 0 Q (entryFrame m ([.int x0, .int x1] : List Value).toArray 4) := by
  have hl := lv_entry ([.int x0, .int x1]) (n := 4) (Nat.le_of_ble_eq_true rfl)
  rw [lg_entry_eq]
  generalize (lg_sl ([.int x0, .int x1]) ++ List.replicate (4 - (lg_sl ([.int x0, .int x1])).length) Slot.unset).toArray = ls at hl ⊢
  have hl : lv_has ls 4 [(0, .int x0), (1, .int x1)] := hl
  generalize hH0 : s.heap = H at hP ⊢
  have hS : va_S A s.heap H [] := by rw [← hH0]; exact va_S.rf
  clear hH0
  generalize ([] : List Loc) = locs at hS ⊢
  refine lv_iconst (v := 0) hx hb dX5_contrary_0 (by decide) ?_
  refine lv_istore_n (lv' := [(2, .int (0 : Int32)), (0, .int x0), (1, .int x1)]) hx hb dX5_contrary_1 rfl hl (by decide) rfl (fun ls hl => ?_)
  refine lv_iconst (v := 0) hx hb dX5_contrary_2 (by decide) ?_
  refine lv_istore_n (lv' := [(3, .int (0 : Int32)), (2, .int (0 : Int32)), (0, .int x0), (1, .int x1)]) hx hb dX5_contrary_3 rfl hl (by decide) rfl (fun ls hl => ?_)
  obtain ⟨I4, m4, hI4, hB4⟩ := h
  have L4 : ∀ (x0 : Int32) (x1 : Int32) (I4 : Int32 → Int32 → Prop) (m4 : Int32 → Int32 → Nat), (∀ (x2 : Int32) (x3 : Int32), I4 x2 x3 → pX5_contrary_4 K x0 x1 x2 x3 (fun x2' x3' => I4 x2' x3' ∧ m4 x2' x3' < m4 x2 x3)) → ∀ (n : Nat) (x2 : Int32) (x3 : Int32) (H : Heap) (locs : List Loc) (ls : Array Slot), I4 x2 x3 → m4 x2 x3 < n → va_P G vwCl (w_X5_contrary Y) H → va_D A (w_X5_contrary Y) → va_S A s.heap H locs → lv_has ls 4 [(0, .int x0), (1, .int x1), (2, .int x2), (3, .int x3)] → W p l e R s m args below meth c H locs 0 0 Q (F0 m 4 ls []) := by
    intro x0 x1 I4 m4 hB4 n
    induction n with
    | zero => intro x2 x3 H locs ls _ hm; exact absurd hm (Nat.not_lt_zero _)
    | succ n ih =>
      intro x2 x3 H locs ls hI hm hP hD hS hl
      obtain ⟨R4, h, rec4⟩ : ∃ R4 : Int32 → Int32 → Prop, pX5_contrary_4 K x0 x1 x2 x3 R4 ∧ ∀ (x2 : Int32) (x3 : Int32) (H : Heap) (locs : List Loc) (ls : Array Slot), R4 x2 x3 → va_P G vwCl (w_X5_contrary Y) H → va_D A (w_X5_contrary Y) → va_S A s.heap H locs → lv_has ls 4 [(0, .int x0), (1, .int x1), (2, .int x2), (3, .int x3)] → W p l e R s m args below meth c H locs 0 0 Q (F0 m 4 ls []) := ⟨_, hB4 x2 x3 hI, fun x2 x3 H locs ls hh hP hD hS hl => ih x2 x3 H locs ls hh.1 (Nat.lt_of_lt_of_le hh.2 (Nat.le_of_lt_succ hm)) hP hD hS hl⟩
      refine lv_iload_n hx hb dX5_contrary_4 rfl (lv_at hl 3 rfl) ?_
      refine lv_iload_n hx hb dX5_contrary_5 rfl (lv_at hl 1 rfl) ?_
      obtain ⟨ht, hf⟩ := h
      refine lv_icmp_ge (tgt := 26) hx hb dX5_contrary_6 (by decide) (fun c9 => ?_) (fun c9 => ?_)
      · have h := ht c9
        refine lv_iload_n hx hb dX5_contrary_26 rfl (lv_at hl 2 rfl) ?_
        exact hret x2  H locs ls _ hP hD hS h dX5_contrary_27
      · have h := hf c9
        refine lv_iload_n hx hb dX5_contrary_9 rfl (lv_at hl 2 rfl) ?_
        refine lv_iload_n hx hb dX5_contrary_10 rfl (lv_at hl 0 rfl) ?_
        refine lv_iload_n hx hb dX5_contrary_11 rfl (lv_at hl 3 rfl) ?_
        refine mc_iS ⟨hx, hb, hml, hown, hts⟩ hK hE hA hP hD hS (c_X5_image l G Y tF H.size x0 x3 h) (va_cwS 2 hts gX5_contrary_X5_image rfl rfl rfl (by decide +kernel) ⟨Nat.le_trans (by decide) hRf, Nat.le_trans (by decide) hRl⟩) (fun u => (w_X5_contrary Y)) [] [] [] rfl rfl rfl rfl (by decide) (fun _ => rfl) rfl rfl hl.1 rfl (Nat.le_of_ble_eq_true rfl) dX5_contrary_12 (fun r12 u H locs h hP hD hS => ?_)
        try dsimp only at h
        have hP : va_P G vwCl (w_X5_contrary Y) H := hP
        have hD : va_D A (w_X5_contrary Y) := hD
        refine lv_iload_n hx hb dX5_contrary_15 rfl (lv_at hl 3 rfl) ?_
        refine mc_iS ⟨hx, hb, hml, hown, hts⟩ hK hE hA hP hD hS (c_X5_with l G Y tF H.size x2 r12 x3 h) (va_cwS 3 hts gX5_contrary_X5_with rfl rfl rfl (by decide +kernel) ⟨Nat.le_trans (by decide) hRf, Nat.le_trans (by decide) hRl⟩) (fun u => (w_X5_contrary Y)) [] [] [] rfl rfl rfl rfl (by decide) (fun _ => rfl) rfl rfl hl.1 rfl (Nat.le_of_ble_eq_true rfl) dX5_contrary_16 (fun r16 u H locs h hP hD hS => ?_)
        try dsimp only at h
        have hP : va_P G vwCl (w_X5_contrary Y) H := hP
        have hD : va_D A (w_X5_contrary Y) := hD
        refine lv_istore_n (lv' := [(2, .int r16), (0, .int x0), (1, .int x1), (3, .int x3)]) hx hb dX5_contrary_19 rfl hl (by decide) rfl (fun ls hl => ?_)
        refine lv_iinc (v := (x3 + 1)) (lv' := [(3, .int (x3 + 1)), (2, .int r16), (0, .int x0), (1, .int x1)]) hx hb dX5_contrary_20 hl (k := 3) rfl rfl (by decide) rfl (fun ls hl => ?_)
        refine lv_goto (tgt := 4) hx hb dX5_contrary_23 (by decide) ?_
        exact rec4 r16 (x3 + 1) H locs ls h hP hD hS (lv_sub hl [2, 3, 1, 0] rfl)
  exact L4 x0 x1 I4 m4 hB4 _ (0 : Int32) (0 : Int32) H locs ls hI4 (Nat.lt_succ_self _) hP hD hS (lv_sub hl [2, 3, 1, 0] rfl)

set_option maxHeartbeats 4000000 in
set_option maxRecDepth 100000 in
theorem c_X5_contrary (l : Launch) (G : va_G) (Y : Nat → ClassId) (tF sz : Nat) (x0 : Int32) (x1 : Int32) {K : Int32 → Prop} (h : pX5_contrary x0 x1 K) : Met l yX5_contrary wsX5_contrary ({ frames := 1, cells := 0, slots := 0, locals := 22 }) (PcM G Y tF sz (w_X5_contrary Y) [.int x0, .int x1]) (va_Qi (fun (r : Int32) (u : Unit) => K r ) (fun u t => BM G Y (va_A (w_X5_contrary Y) sz) (w_X5_contrary Y) t) (va_A (w_X5_contrary Y) sz)) 0 0 (va_A (w_X5_contrary Y) sz) := by
  refine Met.ofW (cc := cX5_contrary) (maxL := 4) (ret := (some .int)) (by decide +kernel) rfl ?_
  intro p e s m args below meth c s₁ B hml hv
  obtain ⟨rfl, hsz, hP, hK, hD0, hE⟩ := hv
  have hts := atoms_spec (ws := wsX5_contrary) B.pre
  have hown : s.vm.findClass RX5 = some m.cls := findClass_of_methodNamed B.named
  have hlocks := B.notSynchronized
  subst hsz
  have hD := hD0.self (sz := s.heap.size)
  exact wk_X5_contrary x0 x1 B.exec B.bytes hml hown hts hK hE (fun q h => Or.inr h) (Nat.le_refl _) (Nat.le_refl _) (fun r  H locs ls pc hP hD hS hk hd => W.iret (v := r) B.exec B.bytes B.returns (fun t ht hW => ⟨⟨r, (), rfl, hk, by rw [ht]; exact hP, va_K.moved hW.alike hK, hD⟩, hS.F ht⟩) hS.2.2 hd) hP hD h

abbrev w_X7_has (Y : Nat → ClassId) (h_t : Nat) (B_t : Nat → Nat) (t_n : Int32) : va_W := [(h_t, .inr (6, [.ref (B_t 0), .int t_n]))]

set_option maxHeartbeats 4000000 in
set_option maxRecDepth 100000 in
theorem wk_X7_has {p : Program} {l : Launch} {e : Env} {R : Room} {s : State} {m : MethodId} {args : Array Value} {below : List Frame} {meth : Method} {c : Code} {Q : State → Prop} {G : va_G} {Y : Nat → ClassId} {tF : Nat} {A : Nat → Prop} (h_t : Nat) (B_t : Nat → Nat) (t_n : Int32) (x1 : Int32) {K : Int32 → Prop} (hx : p.tables.exec = Jvm.exec) (hb : c.code = cX7_has) (hml : c.maxLocals = 2) (hown : s.vm.findClass RX7 = some m.cls) (hts : ∀ w ∈ wsX7_has, w.before args s = true) (hK : va_K G vwCl (tyL Y) s) (hE : Ev A tF s) (hA : ∀ q, s.heap.size ≤ q → A q) (hRf : 0 ≤ R.frames) (hRl : 0 ≤ R.locals) (hret : ∀ (r : Int32)  (H : Heap) (locs : List Loc) (ls : Array Slot) (pc : Nat), va_P G vwCl (w_X7_has Y h_t B_t t_n) H → va_D A (w_X7_has Y h_t B_t t_n) → va_S A s.heap H locs → zb r → K r → decode cX7_has pc = .ok (.ireturn, 1) → W p l e R s m args below meth c H locs 0 0 Q (F0 m pc ls [.int r])) (hP : va_P G vwCl (w_X7_has Y h_t B_t t_n) s.heap) (hD : va_D A (w_X7_has Y h_t B_t t_n)) (h : pX7_has t_n x1 K) : W p l e R s m args below meth c s.heap [] 0 0 Q (entryFrame m ([.ref h_t, .int x1] : List Value).toArray 2) := by
  have inX7 : ∀ w ∈ u_ws RX7 TX7 2, w ∈ wsX7_has := by decide +kernel
  have hf15 := hts (.fieldLink RX7 15 "RackBench$Table" "n" "I") (by decide +kernel)
  have hl := lv_entry ([.ref h_t, .int x1]) (n := 2) (Nat.le_of_ble_eq_true rfl)
  rw [lg_entry_eq]
  generalize (lg_sl ([.ref h_t, .int x1]) ++ List.replicate (2 - (lg_sl ([.ref h_t, .int x1])).length) Slot.unset).toArray = ls at hl ⊢
  have hl : lv_has ls 2 [(0, .ref h_t), (1, .int x1)] := hl
  generalize hH0 : s.heap = H at hP ⊢
  have hS : va_S A s.heap H [] := by rw [← hH0]; exact va_S.rf
  clear hH0
  generalize ([] : List Loc) = locs at hS ⊢
  have J16 : ∀  (H : Heap) (locs : List Loc) (ls : Array Slot), pX7_has_16 t_n K → va_P G vwCl (w_X7_has Y h_t B_t t_n) H → va_D A (w_X7_has Y h_t B_t t_n) → va_S A s.heap H locs → lv_has ls 2 [] → W p l e R s m args below meth c H locs 0 0 Q (F0 m 16 ls []) := by
    intro  H locs ls h hP hD hS hl
    refine lv_iconst (v := 0) hx hb dX7_has_16 (by decide) ?_
    obtain ⟨hz, h⟩ := h
    exact hret (0 : Int32)  H locs ls _ hP hD hS hz h dX7_has_17
  refine lv_iload_n hx hb dX7_has_0 rfl (lv_at hl 1 rfl) ?_
  obtain ⟨ht, hf⟩ := h
  refine lv_if_lt (tgt := 16) hx hb dX7_has_1 (by decide) (fun c9 => ?_) (fun c9 => ?_)
  · have h := ht c9
    exact J16  H locs ls h hP hD hS (lv_sub hl [] rfl)
  · have h := hf c9
    refine lv_iload_n hx hb dX7_has_4 rfl (lv_at hl 1 rfl) ?_
    refine lv_aload_n hx hb dX7_has_5 rfl (lv_at hl 0 rfl) ?_
    refine va_get (D := G) (ci := 6) (v := .int t_n) (C := RX7) (T := TX7) (N := 2) hx hb hts inX7 hown hK hP 0 rfl rfl 1 (by decide) hf15 (fun _ h9 => h9) rfl dX7_has_6 ?_
    obtain ⟨ht, hf⟩ := h
    refine lv_icmp_ge (tgt := 16) hx hb dX7_has_9 (by decide) (fun c9 => ?_) (fun c9 => ?_)
    · have h := ht c9
      exact J16  H locs ls h hP hD hS (lv_sub hl [] rfl)
    · have h := hf c9
      refine lv_iconst (v := 1) hx hb dX7_has_12 (by decide) ?_
      refine lv_goto (tgt := 17) hx hb dX7_has_13 (by decide) ?_
      obtain ⟨hz, h⟩ := h
      exact hret (1 : Int32)  H locs ls _ hP hD hS hz h dX7_has_17

set_option maxHeartbeats 4000000 in
set_option maxRecDepth 100000 in
theorem c_X7_has (l : Launch) (G : va_G) (Y : Nat → ClassId) (tF sz : Nat) (h_t : Nat) (B_t : Nat → Nat) (t_n : Int32) (x1 : Int32) {K : Int32 → Prop} (h : pX7_has t_n x1 K) : Met l yX7_has wsX7_has ({ frames := 0, cells := 0, slots := 0, locals := 0 }) (PcM G Y tF sz (w_X7_has Y h_t B_t t_n) [.ref h_t, .int x1]) (va_Qi (fun (r : Int32) (u : Unit) => K r ) (fun u t => BM G Y (va_A (w_X7_has Y h_t B_t t_n) sz) (w_X7_has Y h_t B_t t_n) t) (va_A (w_X7_has Y h_t B_t t_n) sz)) 0 0 (va_A (w_X7_has Y h_t B_t t_n) sz) := by
  refine Met.ofW (cc := cX7_has) (maxL := 2) (ret := (some .boolean)) (by decide +kernel) rfl ?_
  intro p e s m args below meth c s₁ B hml hv
  obtain ⟨rfl, hsz, hP, hK, hD0, hE⟩ := hv
  have hts := atoms_spec (ws := wsX7_has) B.pre
  have hown : s.vm.findClass RX7 = some m.cls := findClass_of_methodNamed B.named
  have hlocks := B.notSynchronized
  subst hsz
  have hD := hD0.self (sz := s.heap.size)
  exact wk_X7_has h_t B_t t_n x1 B.exec B.bytes hml hown hts hK hE (fun q h => Or.inr h) (Nat.le_refl _) (Nat.le_refl _) (fun r  H locs ls pc hP hD hS hz hk hd => W.zret (v := r) B.exec B.bytes B.returns hz.n (fun t ht hW => ⟨⟨r, (), rfl, hk, by rw [ht]; exact hP, va_K.moved hW.alike hK, hD⟩, hS.F ht⟩) hS.2.2 hd) hP hD h

abbrev w_X7_turned (Y : Nat → ClassId) (h_t : Nat) (B_t : Nat → Nat) (t_n : Int32) (t_cells : Nat → Int32) : va_W := [(h_t, .inr (6, [.ref (B_t 0), .int t_n])), ((B_t 0), .inl (Y 0, 64, .inl t_cells))]

set_option maxHeartbeats 4000000 in
set_option maxRecDepth 100000 in
theorem wk_X7_turned {p : Program} {l : Launch} {e : Env} {R : Room} {s : State} {m : MethodId} {args : Array Value} {below : List Frame} {meth : Method} {c : Code} {Q : State → Prop} {G : va_G} {Y : Nat → ClassId} {tF : Nat} {A : Nat → Prop} (h_t : Nat) (B_t : Nat → Nat) (t_n : Int32) (t_cells : Nat → Int32) (x1 : Int32) (x2 : Int32) {K : Int32 → Prop} (hx : p.tables.exec = Jvm.exec) (hb : c.code = cX7_turned) (hml : c.maxLocals = 3) (hown : s.vm.findClass RX7 = some m.cls) (hts : ∀ w ∈ wsX7_turned, w.before args s = true) (hK : va_K G vwCl (tyL Y) s) (hE : Ev A tF s) (hA : ∀ q, s.heap.size ≤ q → A q) (hRf : 0 ≤ R.frames) (hRl : 0 ≤ R.locals) (hret : ∀ (r : Int32)  (H : Heap) (locs : List Loc) (ls : Array Slot) (pc : Nat), va_P G vwCl (w_X7_turned Y h_t B_t t_n t_cells) H → va_D A (w_X7_turned Y h_t B_t t_n t_cells) → va_S A s.heap H locs → K r → decode cX7_turned pc = .ok (.ireturn, 1) → W p l e R s m args below meth c H locs 0 0 Q (F0 m pc ls [.int r])) (hP : va_P G vwCl (w_X7_turned Y h_t B_t t_n t_cells) s.heap) (hD : va_D A (w_X7_turned Y h_t B_t t_n t_cells)) (h : pX7_turned t_cells x1 x2 K) : W p l e R s m args below meth c s.heap [] 0 0 Q (entryFrame m ([.ref h_t, .int x1, .int x2] : List Value).toArray 3) := by
  have inX7 : ∀ w ∈ u_ws RX7 TX7 2, w ∈ wsX7_turned := by decide +kernel
  have hf9 := hts (.fieldLink RX7 9 "RackBench$Table" "cells" "[I") (by decide +kernel)
  have hl := lv_entry ([.ref h_t, .int x1, .int x2]) (n := 3) (Nat.le_of_ble_eq_true rfl)
  rw [lg_entry_eq]
  generalize (lg_sl ([.ref h_t, .int x1, .int x2]) ++ List.replicate (3 - (lg_sl ([.ref h_t, .int x1, .int x2])).length) Slot.unset).toArray = ls at hl ⊢
  have hl : lv_has ls 3 [(0, .ref h_t), (1, .int x1), (2, .int x2)] := hl
  generalize hH0 : s.heap = H at hP ⊢
  have hS : va_S A s.heap H [] := by rw [← hH0]; exact va_S.rf
  clear hH0
  generalize ([] : List Loc) = locs at hS ⊢
  refine lv_aload_n hx hb dX7_turned_0 rfl (lv_at hl 0 rfl) ?_
  refine va_get (D := G) (ci := 6) (v := .ref (B_t 0)) (C := RX7) (T := TX7) (N := 2) hx hb hts inX7 hown hK hP 0 rfl rfl 0 (by decide) hf9 (fun _ h9 => h9) rfl dX7_turned_1 ?_
  refine lv_iload_n hx hb dX7_turned_4 rfl (lv_at hl 1 rfl) ?_
  refine lv_bipush (v := 8) hx hb dX7_turned_5 (by decide) ?_
  refine lv_imul hx hb dX7_turned_7 ?_
  refine lv_iload_n hx hb dX7_turned_8 rfl (lv_at hl 2 rfl) ?_
  refine lv_iadd hx hb dX7_turned_9 ?_
  obtain ⟨hin, h⟩ := h
  refine va_iald hx hb hK hP 1 0 rfl rfl hin dX7_turned_10 ?_
  exact hret (t_cells (Int32.toNatClampNeg ((x1 * (8 : Int32)) + x2)))  H locs ls _ hP hD hS h dX7_turned_11

set_option maxHeartbeats 4000000 in
set_option maxRecDepth 100000 in
theorem c_X7_turned (l : Launch) (G : va_G) (Y : Nat → ClassId) (tF sz : Nat) (h_t : Nat) (B_t : Nat → Nat) (t_n : Int32) (t_cells : Nat → Int32) (x1 : Int32) (x2 : Int32) {K : Int32 → Prop} (h : pX7_turned t_cells x1 x2 K) : Met l yX7_turned wsX7_turned ({ frames := 0, cells := 0, slots := 0, locals := 0 }) (PcM G Y tF sz (w_X7_turned Y h_t B_t t_n t_cells) [.ref h_t, .int x1, .int x2]) (va_Qi (fun (r : Int32) (u : Unit) => K r ) (fun u t => BM G Y (va_A (w_X7_turned Y h_t B_t t_n t_cells) sz) (w_X7_turned Y h_t B_t t_n t_cells) t) (va_A (w_X7_turned Y h_t B_t t_n t_cells) sz)) 0 0 (va_A (w_X7_turned Y h_t B_t t_n t_cells) sz) := by
  refine Met.ofW (cc := cX7_turned) (maxL := 3) (ret := (some .int)) (by decide +kernel) rfl ?_
  intro p e s m args below meth c s₁ B hml hv
  obtain ⟨rfl, hsz, hP, hK, hD0, hE⟩ := hv
  have hts := atoms_spec (ws := wsX7_turned) B.pre
  have hown : s.vm.findClass RX7 = some m.cls := findClass_of_methodNamed B.named
  have hlocks := B.notSynchronized
  subst hsz
  have hD := hD0.self (sz := s.heap.size)
  exact wk_X7_turned h_t B_t t_n t_cells x1 x2 B.exec B.bytes hml hown hts hK hE (fun q h => Or.inr h) (Nat.le_refl _) (Nat.le_refl _) (fun r  H locs ls pc hP hD hS hk hd => W.iret (v := r) B.exec B.bytes B.returns (fun t ht hW => ⟨⟨r, (), rfl, hk, by rw [ht]; exact hP, va_K.moved hW.alike hK, hD⟩, hS.F ht⟩) hS.2.2 hd) hP hD h

abbrev w_X7_put (Y : Nat → ClassId) (h_t : Nat) (B_t : Nat → Nat) (t_n : Int32) (t_cells : Nat → Int32) : va_W := [(h_t, .inr (6, [.ref (B_t 0), .int t_n])), ((B_t 0), .inl (Y 0, 64, .inl t_cells))]

set_option maxHeartbeats 4000000 in
set_option maxRecDepth 100000 in
theorem wk_X7_put {p : Program} {l : Launch} {e : Env} {R : Room} {s : State} {m : MethodId} {args : Array Value} {below : List Frame} {meth : Method} {c : Code} {Q : State → Prop} {G : va_G} {Y : Nat → ClassId} {tF : Nat} {A : Nat → Prop} (h_t : Nat) (B_t : Nat → Nat) (t_n : Int32) (t_cells : Nat → Int32) (x1 : Int32) (x2 : Int32) (x3 : Int32) {K : (Nat → Int32) → Prop} (hx : p.tables.exec = Jvm.exec) (hb : c.code = cX7_put) (hml : c.maxLocals = 4) (hown : s.vm.findClass RX7 = some m.cls) (hts : ∀ w ∈ wsX7_put, w.before args s = true) (hK : va_K G vwCl (tyL Y) s) (hE : Ev A tF s) (hA : ∀ q, s.heap.size ≤ q → A q) (hRf : 0 ≤ R.frames) (hRl : 0 ≤ R.locals) (hret : ∀ (t_cells : Nat → Int32) (H : Heap) (locs : List Loc) (ls : Array Slot) (pc : Nat), va_P G vwCl (w_X7_put Y h_t B_t t_n t_cells) H → va_D A (w_X7_put Y h_t B_t t_n t_cells) → va_S A s.heap H locs → K t_cells → decode cX7_put pc = .ok (.return_, 1) → W p l e R s m args below meth c H locs 0 0 Q (F0 m pc ls [])) (hP : va_P G vwCl (w_X7_put Y h_t B_t t_n t_cells) s.heap) (hD : va_D A (w_X7_put Y h_t B_t t_n t_cells)) (h : pX7_put t_cells x1 x2 x3 K) : W p l e R s m args below meth c s.heap [] 0 0 Q (entryFrame m ([.ref h_t, .int x1, .int x2, .int x3] : List Value).toArray 4) := by
  have inX7 : ∀ w ∈ u_ws RX7 TX7 2, w ∈ wsX7_put := by decide +kernel
  have hf9 := hts (.fieldLink RX7 9 "RackBench$Table" "cells" "[I") (by decide +kernel)
  have hl := lv_entry ([.ref h_t, .int x1, .int x2, .int x3]) (n := 4) (Nat.le_of_ble_eq_true rfl)
  rw [lg_entry_eq]
  generalize (lg_sl ([.ref h_t, .int x1, .int x2, .int x3]) ++ List.replicate (4 - (lg_sl ([.ref h_t, .int x1, .int x2, .int x3])).length) Slot.unset).toArray = ls at hl ⊢
  have hl : lv_has ls 4 [(0, .ref h_t), (1, .int x1), (2, .int x2), (3, .int x3)] := hl
  generalize hH0 : s.heap = H at hP ⊢
  have hS : va_S A s.heap H [] := by rw [← hH0]; exact va_S.rf
  clear hH0
  generalize ([] : List Loc) = locs at hS ⊢
  refine lv_aload_n hx hb dX7_put_0 rfl (lv_at hl 0 rfl) ?_
  refine va_get (D := G) (ci := 6) (v := .ref (B_t 0)) (C := RX7) (T := TX7) (N := 2) hx hb hts inX7 hown hK hP 0 rfl rfl 0 (by decide) hf9 (fun _ h9 => h9) rfl dX7_put_1 ?_
  refine lv_iload_n hx hb dX7_put_4 rfl (lv_at hl 1 rfl) ?_
  refine lv_bipush (v := 8) hx hb dX7_put_5 (by decide) ?_
  refine lv_imul hx hb dX7_put_7 ?_
  refine lv_iload_n hx hb dX7_put_8 rfl (lv_at hl 2 rfl) ?_
  refine lv_iadd hx hb dX7_put_9 ?_
  refine lv_iload_n hx hb dX7_put_10 rfl (lv_at hl 3 rfl) ?_
  obtain ⟨hin, h⟩ := h
  refine va_iast hx hb hK hP hD hS 1 0 rfl rfl hin dX7_put_11 (fun H locs hP hD hS => ?_)
  have hP : va_P G vwCl (w_X7_put Y h_t B_t t_n (upd t_cells (Int32.toNatClampNeg ((x1 * (8 : Int32)) + x2)) x3)) H := hP
  have hD : va_D A (w_X7_put Y h_t B_t t_n (upd t_cells (Int32.toNatClampNeg ((x1 * (8 : Int32)) + x2)) x3)) := hD
  exact hret (upd t_cells (Int32.toNatClampNeg ((x1 * (8 : Int32)) + x2)) x3) H locs ls _ hP hD hS h dX7_put_12

set_option maxHeartbeats 4000000 in
set_option maxRecDepth 100000 in
theorem c_X7_put (l : Launch) (G : va_G) (Y : Nat → ClassId) (tF sz : Nat) (h_t : Nat) (B_t : Nat → Nat) (t_n : Int32) (t_cells : Nat → Int32) (x1 : Int32) (x2 : Int32) (x3 : Int32) {K : (Nat → Int32) → Prop} (h : pX7_put t_cells x1 x2 x3 K) : Met l yX7_put wsX7_put ({ frames := 0, cells := 0, slots := 0, locals := 0 }) (PcM G Y tF sz (w_X7_put Y h_t B_t t_n t_cells) [.ref h_t, .int x1, .int x2, .int x3]) (va_Qv (fun u : (Nat → Int32) => K u) (fun u t => BM G Y (va_A (w_X7_put Y h_t B_t t_n t_cells) sz) (w_X7_put Y h_t B_t t_n u) t) (va_A (w_X7_put Y h_t B_t t_n t_cells) sz)) 0 0 (va_A (w_X7_put Y h_t B_t t_n t_cells) sz) := by
  refine Met.ofW (cc := cX7_put) (maxL := 4) (ret := none) (by decide +kernel) rfl ?_
  intro p e s m args below meth c s₁ B hml hv
  obtain ⟨rfl, hsz, hP, hK, hD0, hE⟩ := hv
  have hts := atoms_spec (ws := wsX7_put) B.pre
  have hown : s.vm.findClass RX7 = some m.cls := findClass_of_methodNamed B.named
  have hlocks := B.notSynchronized
  subst hsz
  have hD := hD0.self (sz := s.heap.size)
  exact wk_X7_put h_t B_t t_n t_cells x1 x2 x3 B.exec B.bytes hml hown hts hK hE (fun q h => Or.inr h) (Nat.le_refl _) (Nat.le_refl _) (fun t_cells H locs ls pc hP hD hS hk hd => W.vret B.exec B.bytes B.returns (fun t ht hW => ⟨⟨t_cells, rfl, hk, by rw [ht]; exact hP, va_K.moved hW.alike hK, hD⟩, hS.F ht⟩) hS.2.2 hd) hP hD h

abbrev w_X7_putRow (Y : Nat → ClassId) (h_t : Nat) (B_t : Nat → Nat) (t_n : Int32) (t_cells : Nat → Int32) : va_W := [(h_t, .inr (6, [.ref (B_t 0), .int t_n])), ((B_t 0), .inl (Y 0, 64, .inl t_cells))]

set_option maxHeartbeats 4000000 in
set_option maxRecDepth 100000 in
theorem wk_X7_putRow {p : Program} {l : Launch} {e : Env} {R : Room} {s : State} {m : MethodId} {args : Array Value} {below : List Frame} {meth : Method} {c : Code} {Q : State → Prop} {G : va_G} {Y : Nat → ClassId} {tF : Nat} {A : Nat → Prop} (h_t : Nat) (B_t : Nat → Nat) (t_n : Int32) (t_cells : Nat → Int32) (x1 : Int32) (x2 : Int32) {K : (Nat → Int32) → Prop} (hx : p.tables.exec = Jvm.exec) (hb : c.code = cX7_putRow) (hml : c.maxLocals = 4) (hown : s.vm.findClass RX7 = some m.cls) (hts : ∀ w ∈ wsX7_putRow, w.before args s = true) (hK : va_K G vwCl (tyL Y) s) (hE : Ev A tF s) (hA : ∀ q, s.heap.size ≤ q → A q) (hRf : 1 ≤ R.frames) (hRl : 23 ≤ R.locals) (hret : ∀ (t_cells : Nat → Int32) (H : Heap) (locs : List Loc) (ls : Array Slot) (pc : Nat), va_P G vwCl (w_X7_putRow Y h_t B_t t_n t_cells) H → va_D A (w_X7_putRow Y h_t B_t t_n t_cells) → va_S A s.heap H locs → K t_cells → decode cX7_putRow pc = .ok (.return_, 1) → W p l e R s m args below meth c H locs 0 0 Q (F0 m pc ls [])) (hP : va_P G vwCl (w_X7_putRow Y h_t B_t t_n t_cells) s.heap) (hD : va_D A (w_X7_putRow Y h_t B_t t_n t_cells)) (h : pX7_putRow t_n t_cells x1 x2 K) : W p l e R s m args below meth c s.heap [] 0 0 Q (entryFrame m ([.ref h_t, .int x1, .int x2] : List Value).toArray 4) := by
  have inX7 : ∀ w ∈ u_ws RX7 TX7 2, w ∈ wsX7_putRow := by decide +kernel
  have hf15 := hts (.fieldLink RX7 15 "RackBench$Table" "n" "I") (by decide +kernel)
  have hl := lv_entry ([.ref h_t, .int x1, .int x2]) (n := 4) (Nat.le_of_ble_eq_true rfl)
  rw [lg_entry_eq]
  generalize (lg_sl ([.ref h_t, .int x1, .int x2]) ++ List.replicate (4 - (lg_sl ([.ref h_t, .int x1, .int x2])).length) Slot.unset).toArray = ls at hl ⊢
  have hl : lv_has ls 4 [(0, .ref h_t), (1, .int x1), (2, .int x2)] := hl
  generalize hH0 : s.heap = H at hP ⊢
  have hS : va_S A s.heap H [] := by rw [← hH0]; exact va_S.rf
  clear hH0
  generalize ([] : List Loc) = locs at hS ⊢
  refine lv_iconst (v := 0) hx hb dX7_putRow_0 (by decide) ?_
  refine lv_istore_n (lv' := [(3, .int (0 : Int32)), (0, .ref h_t), (1, .int x1), (2, .int x2)]) hx hb dX7_putRow_1 rfl hl (by decide) rfl (fun ls hl => ?_)
  obtain ⟨I2, m2, hI2, hB2⟩ := h
  have L2 : ∀ (x1 : Int32) (x2 : Int32) (I2 : Int32 → (Nat → Int32) → Prop) (m2 : Int32 → (Nat → Int32) → Nat), (∀ (x3 : Int32) (t_cells : Nat → Int32), I2 x3 t_cells → pX7_putRow_2 t_n K x1 x2 x3 t_cells (fun x3' t_cells' => I2 x3' t_cells' ∧ m2 x3' t_cells' < m2 x3 t_cells)) → ∀ (n : Nat) (x3 : Int32) (t_cells : Nat → Int32) (H : Heap) (locs : List Loc) (ls : Array Slot), I2 x3 t_cells → m2 x3 t_cells < n → va_P G vwCl (w_X7_putRow Y h_t B_t t_n t_cells) H → va_D A (w_X7_putRow Y h_t B_t t_n t_cells) → va_S A s.heap H locs → lv_has ls 4 [(0, .ref h_t), (1, .int x1), (2, .int x2), (3, .int x3)] → W p l e R s m args below meth c H locs 0 0 Q (F0 m 2 ls []) := by
    intro x1 x2 I2 m2 hB2 n
    induction n with
    | zero => intro x3 t_cells H locs ls _ hm; exact absurd hm (Nat.not_lt_zero _)
    | succ n ih =>
      intro x3 t_cells H locs ls hI hm hP hD hS hl
      obtain ⟨R2, h, rec2⟩ : ∃ R2 : Int32 → (Nat → Int32) → Prop, pX7_putRow_2 t_n K x1 x2 x3 t_cells R2 ∧ ∀ (x3 : Int32) (t_cells : Nat → Int32) (H : Heap) (locs : List Loc) (ls : Array Slot), R2 x3 t_cells → va_P G vwCl (w_X7_putRow Y h_t B_t t_n t_cells) H → va_D A (w_X7_putRow Y h_t B_t t_n t_cells) → va_S A s.heap H locs → lv_has ls 4 [(0, .ref h_t), (1, .int x1), (2, .int x2), (3, .int x3)] → W p l e R s m args below meth c H locs 0 0 Q (F0 m 2 ls []) := ⟨_, hB2 x3 t_cells hI, fun x3 t_cells H locs ls hh hP hD hS hl => ih x3 t_cells H locs ls hh.1 (Nat.lt_of_lt_of_le hh.2 (Nat.le_of_lt_succ hm)) hP hD hS hl⟩
      refine lv_iload_n hx hb dX7_putRow_2 rfl (lv_at hl 3 rfl) ?_
      refine lv_aload_n hx hb dX7_putRow_3 rfl (lv_at hl 0 rfl) ?_
      refine va_get (D := G) (ci := 6) (v := .int t_n) (C := RX7) (T := TX7) (N := 2) hx hb hts inX7 hown hK hP 0 rfl rfl 1 (by decide) hf15 (fun _ h9 => h9) rfl dX7_putRow_4 ?_
      obtain ⟨ht, hf⟩ := h
      refine lv_icmp_ge (tgt := 27) hx hb dX7_putRow_7 (by decide) (fun c9 => ?_) (fun c9 => ?_)
      · have h := ht c9
        exact hret t_cells H locs ls _ hP hD hS h dX7_putRow_27
      · have h := hf c9
        refine lv_aload_n hx hb dX7_putRow_10 rfl (lv_at hl 0 rfl) ?_
        refine lv_iload_n hx hb dX7_putRow_11 rfl (lv_at hl 1 rfl) ?_
        refine lv_iload_n hx hb dX7_putRow_12 rfl (lv_at hl 3 rfl) ?_
        refine lv_iload_n hx hb dX7_putRow_13 rfl (lv_at hl 2 rfl) ?_
        refine lv_iload_n hx hb dX7_putRow_14 rfl (lv_at hl 3 rfl) ?_
        refine mc_iS ⟨hx, hb, hml, hown, hts⟩ hK hE hA hP hD hS (c_X5_image l G Y tF H.size x2 x3 h) (va_cwS 2 hts gX7_putRow_X5_image rfl rfl rfl (by decide +kernel) ⟨Nat.le_trans (by decide) hRf, Nat.le_trans (by decide) hRl⟩) (fun u => (w_X7_putRow Y h_t B_t t_n t_cells)) [] [0, 1] [0, 1] rfl rfl rfl rfl (by decide) (fun _ => rfl) rfl rfl hl.1 rfl (Nat.le_of_ble_eq_true rfl) dX7_putRow_15 (fun r15 u H locs h hP hD hS => ?_)
        try dsimp only at h
        have hP : va_P G vwCl (w_X7_putRow Y h_t B_t t_n t_cells) H := hP
        have hD : va_D A (w_X7_putRow Y h_t B_t t_n t_cells) := hD
        refine mc_vV ⟨hx, hb, hml, hown, hts⟩ hK hE hA hP hD hS (c_X7_put l G Y tF H.size h_t B_t t_n t_cells x1 x3 r15 h) (cwV 3 hts gX7_putRow_X7_put rfl rfl rfl (by decide +kernel) ⟨Nat.le_trans (by decide) hRf, Nat.le_trans (by decide) hRl⟩) (fun u => (w_X7_putRow Y h_t B_t t_n u)) [0, 1] [] [0, 1] rfl rfl rfl rfl (by decide) (fun _ => rfl) rfl 0 6 rfl rfl rfl rfl hl.1 rfl (Nat.le_of_ble_eq_true rfl) dX7_putRow_18 (fun u H locs h hP hD hS => ?_)
        obtain ⟨t_cells_18, rfl⟩ : ∃ z, z = u := ⟨_, rfl⟩
        try dsimp only at h
        have hP : va_P G vwCl (w_X7_putRow Y h_t B_t t_n t_cells_18) H := hP
        have hD : va_D A (w_X7_putRow Y h_t B_t t_n t_cells_18) := hD
        refine lv_iinc (v := (x3 + 1)) (lv' := [(3, .int (x3 + 1)), (0, .ref h_t), (1, .int x1), (2, .int x2)]) hx hb dX7_putRow_21 hl (k := 3) rfl rfl (by decide) rfl (fun ls hl => ?_)
        refine lv_goto (tgt := 2) hx hb dX7_putRow_24 (by decide) ?_
        exact rec2 (x3 + 1) t_cells_18 H locs ls h hP hD hS (lv_sub hl [1, 2, 3, 0] rfl)
  exact L2 x1 x2 I2 m2 hB2 _ (0 : Int32) t_cells H locs ls hI2 (Nat.lt_succ_self _) hP hD hS (lv_sub hl [1, 2, 3, 0] rfl)

set_option maxHeartbeats 4000000 in
set_option maxRecDepth 100000 in
theorem c_X7_putRow (l : Launch) (G : va_G) (Y : Nat → ClassId) (tF sz : Nat) (h_t : Nat) (B_t : Nat → Nat) (t_n : Int32) (t_cells : Nat → Int32) (x1 : Int32) (x2 : Int32) {K : (Nat → Int32) → Prop} (h : pX7_putRow t_n t_cells x1 x2 K) : Met l yX7_putRow wsX7_putRow ({ frames := 1, cells := 0, slots := 0, locals := 23 }) (PcM G Y tF sz (w_X7_putRow Y h_t B_t t_n t_cells) [.ref h_t, .int x1, .int x2]) (va_Qv (fun u : (Nat → Int32) => K u) (fun u t => BM G Y (va_A (w_X7_putRow Y h_t B_t t_n t_cells) sz) (w_X7_putRow Y h_t B_t t_n u) t) (va_A (w_X7_putRow Y h_t B_t t_n t_cells) sz)) 0 0 (va_A (w_X7_putRow Y h_t B_t t_n t_cells) sz) := by
  refine Met.ofW (cc := cX7_putRow) (maxL := 4) (ret := none) (by decide +kernel) rfl ?_
  intro p e s m args below meth c s₁ B hml hv
  obtain ⟨rfl, hsz, hP, hK, hD0, hE⟩ := hv
  have hts := atoms_spec (ws := wsX7_putRow) B.pre
  have hown : s.vm.findClass RX7 = some m.cls := findClass_of_methodNamed B.named
  have hlocks := B.notSynchronized
  subst hsz
  have hD := hD0.self (sz := s.heap.size)
  exact wk_X7_putRow h_t B_t t_n t_cells x1 x2 B.exec B.bytes hml hown hts hK hE (fun q h => Or.inr h) (Nat.le_refl _) (Nat.le_refl _) (fun t_cells H locs ls pc hP hD hS hk hd => W.vret B.exec B.bytes B.returns (fun t ht hW => ⟨⟨t_cells, rfl, hk, by rw [ht]; exact hP, va_K.moved hW.alike hK, hD⟩, hS.F ht⟩) hS.2.2 hd) hP hD h

abbrev w_X7_copy (Y : Nat → ClassId) (h_t : Nat) (h_p1 : Nat) (B_t : Nat → Nat) (B_p1 : Nat → Nat) (t_n : Int32) (t_cells : Nat → Int32) (p1_n : Int32) (p1_cells : Nat → Int32) : va_W := [(h_t, .inr (6, [.ref (B_t 0), .int t_n])), ((B_t 0), .inl (Y 0, 64, .inl t_cells)), (h_p1, .inr (6, [.ref (B_p1 0), .int p1_n])), ((B_p1 0), .inl (Y 0, 64, .inl p1_cells))]

set_option maxHeartbeats 4000000 in
set_option maxRecDepth 100000 in
theorem wk_X7_copy {p : Program} {l : Launch} {e : Env} {R : Room} {s : State} {m : MethodId} {args : Array Value} {below : List Frame} {meth : Method} {c : Code} {Q : State → Prop} {G : va_G} {Y : Nat → ClassId} {tF : Nat} {A : Nat → Prop} (h_t : Nat) (h_p1 : Nat) (B_t : Nat → Nat) (B_p1 : Nat → Nat) (t_n : Int32) (t_cells : Nat → Int32) (p1_n : Int32) (p1_cells : Nat → Int32) {K : Int32 → (Nat → Int32) → Prop} (hx : p.tables.exec = Jvm.exec) (hb : c.code = cX7_copy) (hml : c.maxLocals = 2) (hown : s.vm.findClass RX7 = some m.cls) (hts : ∀ w ∈ wsX7_copy, w.before args s = true) (hK : va_K G vwCl (tyL Y) s) (hE : Ev A tF s) (hA : ∀ q, s.heap.size ≤ q → A q) (hRf : 1 ≤ R.frames) (hRl : 64 ≤ R.locals) (hret : ∀ (t_n : Int32) (t_cells : Nat → Int32) (H : Heap) (locs : List Loc) (ls : Array Slot) (pc : Nat), va_P G vwCl (w_X7_copy Y h_t h_p1 B_t B_p1 t_n t_cells p1_n p1_cells) H → va_D A (w_X7_copy Y h_t h_p1 B_t B_p1 t_n t_cells p1_n p1_cells) → va_S A s.heap H locs → K t_n t_cells → decode cX7_copy pc = .ok (.return_, 1) → W p l e R s m args below meth c H locs 0 0 Q (F0 m pc ls [])) (hP : va_P G vwCl (w_X7_copy Y h_t h_p1 B_t B_p1 t_n t_cells p1_n p1_cells) s.heap) (hD : va_D A (w_X7_copy Y h_t h_p1 B_t B_p1 t_n t_cells p1_n p1_cells)) (h : pX7_copy t_n t_cells p1_n p1_cells K) : W p l e R s m args below meth c s.heap [] 0 0 Q (entryFrame m ([.ref h_t, .ref h_p1] : List Value).toArray 2) := by
  have inX7 : ∀ w ∈ u_ws RX7 TX7 2, w ∈ wsX7_copy := by decide +kernel
  have hf15 := hts (.fieldLink RX7 15 "RackBench$Table" "n" "I") (by decide +kernel)
  have hf9 := hts (.fieldLink RX7 9 "RackBench$Table" "cells" "[I") (by decide +kernel)
  have hl := lv_entry ([.ref h_t, .ref h_p1]) (n := 2) (Nat.le_of_ble_eq_true rfl)
  rw [lg_entry_eq]
  generalize (lg_sl ([.ref h_t, .ref h_p1]) ++ List.replicate (2 - (lg_sl ([.ref h_t, .ref h_p1])).length) Slot.unset).toArray = ls at hl ⊢
  have hl : lv_has ls 2 [(0, .ref h_t), (1, .ref h_p1)] := hl
  generalize hH0 : s.heap = H at hP ⊢
  have hS : va_S A s.heap H [] := by rw [← hH0]; exact va_S.rf
  clear hH0
  generalize ([] : List Loc) = locs at hS ⊢
  refine lv_aload_n hx hb dX7_copy_0 rfl (lv_at hl 0 rfl) ?_
  refine lv_aload_n hx hb dX7_copy_1 rfl (lv_at hl 1 rfl) ?_
  refine va_get (D := G) (ci := 6) (v := .int p1_n) (C := RX7) (T := TX7) (N := 2) hx hb hts inX7 hown hK hP 2 rfl rfl 1 (by decide) hf15 (fun _ h9 => h9) rfl dX7_copy_2 ?_
  refine va_put (D := G) (ci := 6) (v := .int p1_n) (ty := .int) (C := RX7) (T := TX7) (N := 2) hx hb hts inX7 tyX7 tyX7_ok nmX7 hown hK hP hD hS 0 rfl rfl 1 (by decide) hf15 (fun _ h9 => h9) rfl (by decide +kernel) rfl rfl (Nat.le_of_ble_eq_true rfl) dX7_copy_5 (fun H locs hP hD hS => ?_)
  have hP : va_P G vwCl (w_X7_copy Y h_t h_p1 B_t B_p1 p1_n t_cells p1_n p1_cells) H := hP
  have hD : va_D A (w_X7_copy Y h_t h_p1 B_t B_p1 p1_n t_cells p1_n p1_cells) := hD
  refine lv_aload_n hx hb dX7_copy_8 rfl (lv_at hl 1 rfl) ?_
  refine va_get (D := G) (ci := 6) (v := .ref (B_p1 0)) (C := RX7) (T := TX7) (N := 2) hx hb hts inX7 hown hK hP 2 rfl rfl 0 (by decide) hf9 (fun _ h9 => h9) rfl dX7_copy_9 ?_
  refine lv_iconst (v := 0) hx hb dX7_copy_12 (by decide) ?_
  refine lv_aload_n hx hb dX7_copy_13 rfl (lv_at hl 0 rfl) ?_
  refine va_get (D := G) (ci := 6) (v := .ref (B_t 0)) (C := RX7) (T := TX7) (N := 2) hx hb hts inX7 hown hK hP 0 rfl rfl 0 (by decide) hf9 (fun _ h9 => h9) rfl dX7_copy_14 ?_
  refine lv_iconst (v := 0) hx hb dX7_copy_17 (by decide) ?_
  refine lv_bipush (v := 64) hx hb dX7_copy_18 (by decide) ?_
  refine va_copyi hx hb (by rw [hml]; exact hl.1.symm) hown (hts (.methodLink RX7 29 arraycopyName) (by decide +kernel)) (hts (.native arraycopyName) (by decide +kernel)) (hts (.static arraycopyName) (by decide +kernel)) (hts (.initialized "java/lang/System") (by decide +kernel)) hK hP hD hS 3 1 0 0 rfl rfl rfl rfl rfl (by decide) (by decide) (by decide) (by decide) (by decide) (fun _ _ => rfl) (Nat.le_trans (by decide) hRf) (Nat.le_trans (by decide) hRl) dX7_copy_20 (fun H locs hP hD hS => ?_)
  have hP : va_P G vwCl (w_X7_copy Y h_t h_p1 B_t B_p1 p1_n (va_cpy p1_cells t_cells (Int32.toNatClampNeg (0 : Int32)) (Int32.toNatClampNeg (0 : Int32)) (Int32.toNatClampNeg (64 : Int32))) p1_n p1_cells) H := hP
  have hD : va_D A (w_X7_copy Y h_t h_p1 B_t B_p1 p1_n (va_cpy p1_cells t_cells (Int32.toNatClampNeg (0 : Int32)) (Int32.toNatClampNeg (0 : Int32)) (Int32.toNatClampNeg (64 : Int32))) p1_n p1_cells) := hD
  exact hret p1_n (va_cpy p1_cells t_cells (Int32.toNatClampNeg (0 : Int32)) (Int32.toNatClampNeg (0 : Int32)) (Int32.toNatClampNeg (64 : Int32))) H locs ls _ hP hD hS h dX7_copy_23

set_option maxHeartbeats 4000000 in
set_option maxRecDepth 100000 in
theorem c_X7_copy (l : Launch) (G : va_G) (Y : Nat → ClassId) (tF sz : Nat) (h_t : Nat) (h_p1 : Nat) (B_t : Nat → Nat) (B_p1 : Nat → Nat) (t_n : Int32) (t_cells : Nat → Int32) (p1_n : Int32) (p1_cells : Nat → Int32) {K : Int32 → (Nat → Int32) → Prop} (h : pX7_copy t_n t_cells p1_n p1_cells K) : Met l yX7_copy wsX7_copy ({ frames := 1, cells := 0, slots := 0, locals := 64 }) (PcM G Y tF sz (w_X7_copy Y h_t h_p1 B_t B_p1 t_n t_cells p1_n p1_cells) [.ref h_t, .ref h_p1]) (va_Qv (fun u : Int32 × (Nat → Int32) => K u.1 u.2) (fun u t => BM G Y (va_A (w_X7_copy Y h_t h_p1 B_t B_p1 t_n t_cells p1_n p1_cells) sz) (w_X7_copy Y h_t h_p1 B_t B_p1 u.1 u.2 p1_n p1_cells) t) (va_A (w_X7_copy Y h_t h_p1 B_t B_p1 t_n t_cells p1_n p1_cells) sz)) 0 0 (va_A (w_X7_copy Y h_t h_p1 B_t B_p1 t_n t_cells p1_n p1_cells) sz) := by
  refine Met.ofW (cc := cX7_copy) (maxL := 2) (ret := none) (by decide +kernel) rfl ?_
  intro p e s m args below meth c s₁ B hml hv
  obtain ⟨rfl, hsz, hP, hK, hD0, hE⟩ := hv
  have hts := atoms_spec (ws := wsX7_copy) B.pre
  have hown : s.vm.findClass RX7 = some m.cls := findClass_of_methodNamed B.named
  have hlocks := B.notSynchronized
  subst hsz
  have hD := hD0.self (sz := s.heap.size)
  exact wk_X7_copy h_t h_p1 B_t B_p1 t_n t_cells p1_n p1_cells B.exec B.bytes hml hown hts hK hE (fun q h => Or.inr h) (Nat.le_refl _) (Nat.le_refl _) (fun t_n t_cells H locs ls pc hP hD hS hk hd => W.vret B.exec B.bytes B.returns (fun t ht hW => ⟨⟨(t_n, t_cells), rfl, hk, by rw [ht]; exact hP, va_K.moved hW.alike hK, hD⟩, hS.F ht⟩) hS.2.2 hd) hP hD h

abbrev w_X7_makeContrary (Y : Nat → ClassId) (h_t : Nat) (h_p1 : Nat) (B_t : Nat → Nat) (B_p1 : Nat → Nat) (t_n : Int32) (t_cells : Nat → Int32) (p1_n : Int32) (p1_cells : Nat → Int32) : va_W := [(h_t, .inr (6, [.ref (B_t 0), .int t_n])), ((B_t 0), .inl (Y 0, 64, .inl t_cells)), (h_p1, .inr (6, [.ref (B_p1 0), .int p1_n])), ((B_p1 0), .inl (Y 0, 64, .inl p1_cells))]

set_option maxHeartbeats 4000000 in
set_option maxRecDepth 100000 in
theorem wk_X7_makeContrary {p : Program} {l : Launch} {e : Env} {R : Room} {s : State} {m : MethodId} {args : Array Value} {below : List Frame} {meth : Method} {c : Code} {Q : State → Prop} {G : va_G} {Y : Nat → ClassId} {tF : Nat} {A : Nat → Prop} (h_t : Nat) (h_p1 : Nat) (B_t : Nat → Nat) (B_p1 : Nat → Nat) (t_n : Int32) (t_cells : Nat → Int32) (p1_n : Int32) (p1_cells : Nat → Int32) {K : Int32 → (Nat → Int32) → Prop} (hx : p.tables.exec = Jvm.exec) (hb : c.code = cX7_makeContrary) (hml : c.maxLocals = 4) (hown : s.vm.findClass RX7 = some m.cls) (hts : ∀ w ∈ wsX7_makeContrary, w.before args s = true) (hK : va_K G vwCl (tyL Y) s) (hE : Ev A tF s) (hA : ∀ q, s.heap.size ≤ q → A q) (hRf : 1 ≤ R.frames) (hRl : 23 ≤ R.locals) (hret : ∀ (t_n : Int32) (t_cells : Nat → Int32) (H : Heap) (locs : List Loc) (ls : Array Slot) (pc : Nat), va_P G vwCl (w_X7_makeContrary Y h_t h_p1 B_t B_p1 t_n t_cells p1_n p1_cells) H → va_D A (w_X7_makeContrary Y h_t h_p1 B_t B_p1 t_n t_cells p1_n p1_cells) → va_S A s.heap H locs → K t_n t_cells → decode cX7_makeContrary pc = .ok (.return_, 1) → W p l e R s m args below meth c H locs 0 0 Q (F0 m pc ls [])) (hP : va_P G vwCl (w_X7_makeContrary Y h_t h_p1 B_t B_p1 t_n t_cells p1_n p1_cells) s.heap) (hD : va_D A (w_X7_makeContrary Y h_t h_p1 B_t B_p1 t_n t_cells p1_n p1_cells)) (h : pX7_makeContrary t_n t_cells p1_n p1_cells K) : W p l e R s m args below meth c s.heap [] 0 0 Q (entryFrame m ([.ref h_t, .ref h_p1] : List Value).toArray 4) := by
  have inX7 : ∀ w ∈ u_ws RX7 TX7 2, w ∈ wsX7_makeContrary := by decide +kernel
  have hf15 := hts (.fieldLink RX7 15 "RackBench$Table" "n" "I") (by decide +kernel)
  have hl := lv_entry ([.ref h_t, .ref h_p1]) (n := 4) (Nat.le_of_ble_eq_true rfl)
  rw [lg_entry_eq]
  generalize (lg_sl ([.ref h_t, .ref h_p1]) ++ List.replicate (4 - (lg_sl ([.ref h_t, .ref h_p1])).length) Slot.unset).toArray = ls at hl ⊢
  have hl : lv_has ls 4 [(0, .ref h_t), (1, .ref h_p1)] := hl
  generalize hH0 : s.heap = H at hP ⊢
  have hS : va_S A s.heap H [] := by rw [← hH0]; exact va_S.rf
  clear hH0
  generalize ([] : List Loc) = locs at hS ⊢
  refine lv_aload_n hx hb dX7_makeContrary_0 rfl (lv_at hl 0 rfl) ?_
  refine lv_aload_n hx hb dX7_makeContrary_1 rfl (lv_at hl 1 rfl) ?_
  refine va_get (D := G) (ci := 6) (v := .int p1_n) (C := RX7) (T := TX7) (N := 2) hx hb hts inX7 hown hK hP 2 rfl rfl 1 (by decide) hf15 (fun _ h9 => h9) rfl dX7_makeContrary_2 ?_
  refine va_put (D := G) (ci := 6) (v := .int p1_n) (ty := .int) (C := RX7) (T := TX7) (N := 2) hx hb hts inX7 tyX7 tyX7_ok nmX7 hown hK hP hD hS 0 rfl rfl 1 (by decide) hf15 (fun _ h9 => h9) rfl (by decide +kernel) rfl rfl (Nat.le_of_ble_eq_true rfl) dX7_makeContrary_5 (fun H locs hP hD hS => ?_)
  have hP : va_P G vwCl (w_X7_makeContrary Y h_t h_p1 B_t B_p1 p1_n t_cells p1_n p1_cells) H := hP
  have hD : va_D A (w_X7_makeContrary Y h_t h_p1 B_t B_p1 p1_n t_cells p1_n p1_cells) := hD
  refine lv_iconst (v := 0) hx hb dX7_makeContrary_8 (by decide) ?_
  refine lv_istore_n (lv' := [(2, .int (0 : Int32)), (0, .ref h_t), (1, .ref h_p1)]) hx hb dX7_makeContrary_9 rfl hl (by decide) rfl (fun ls hl => ?_)
  obtain ⟨I10, m10, hI10, hB10⟩ := h
  have L10 : ∀ (t_n : Int32) (I10 : Int32 → (Nat → Int32) → Prop) (m10 : Int32 → (Nat → Int32) → Nat), (∀ (x2 : Int32) (t_cells : Nat → Int32), I10 x2 t_cells → pX7_makeContrary_10 p1_n p1_cells K t_n x2 t_cells (fun x2' t_cells' => I10 x2' t_cells' ∧ m10 x2' t_cells' < m10 x2 t_cells)) → ∀ (n : Nat) (x2 : Int32) (t_cells : Nat → Int32) (H : Heap) (locs : List Loc) (ls : Array Slot), I10 x2 t_cells → m10 x2 t_cells < n → va_P G vwCl (w_X7_makeContrary Y h_t h_p1 B_t B_p1 t_n t_cells p1_n p1_cells) H → va_D A (w_X7_makeContrary Y h_t h_p1 B_t B_p1 t_n t_cells p1_n p1_cells) → va_S A s.heap H locs → lv_has ls 4 [(0, .ref h_t), (1, .ref h_p1), (2, .int x2)] → W p l e R s m args below meth c H locs 0 0 Q (F0 m 10 ls []) := by
    intro t_n I10 m10 hB10 n
    induction n with
    | zero => intro x2 t_cells H locs ls _ hm; exact absurd hm (Nat.not_lt_zero _)
    | succ n ih =>
      intro x2 t_cells H locs ls hI hm hP hD hS hl
      obtain ⟨R10, h, rec10⟩ : ∃ R10 : Int32 → (Nat → Int32) → Prop, pX7_makeContrary_10 p1_n p1_cells K t_n x2 t_cells R10 ∧ ∀ (x2 : Int32) (t_cells : Nat → Int32) (H : Heap) (locs : List Loc) (ls : Array Slot), R10 x2 t_cells → va_P G vwCl (w_X7_makeContrary Y h_t h_p1 B_t B_p1 t_n t_cells p1_n p1_cells) H → va_D A (w_X7_makeContrary Y h_t h_p1 B_t B_p1 t_n t_cells p1_n p1_cells) → va_S A s.heap H locs → lv_has ls 4 [(0, .ref h_t), (1, .ref h_p1), (2, .int x2)] → W p l e R s m args below meth c H locs 0 0 Q (F0 m 10 ls []) := ⟨_, hB10 x2 t_cells hI, fun x2 t_cells H locs ls hh hP hD hS hl => ih x2 t_cells H locs ls hh.1 (Nat.lt_of_lt_of_le hh.2 (Nat.le_of_lt_succ hm)) hP hD hS hl⟩
      refine lv_iload_n hx hb dX7_makeContrary_10 rfl (lv_at hl 2 rfl) ?_
      refine lv_aload_n hx hb dX7_makeContrary_11 rfl (lv_at hl 0 rfl) ?_
      refine va_get (D := G) (ci := 6) (v := .int t_n) (C := RX7) (T := TX7) (N := 2) hx hb hts inX7 hown hK hP 0 rfl rfl 1 (by decide) hf15 (fun _ h9 => h9) rfl dX7_makeContrary_12 ?_
      obtain ⟨ht, hf⟩ := h
      refine lv_icmp_ge (tgt := 52) hx hb dX7_makeContrary_15 (by decide) (fun c9 => ?_) (fun c9 => ?_)
      · have h := ht c9
        exact hret t_n t_cells H locs ls _ hP hD hS h dX7_makeContrary_52
      · have h := hf c9
        refine lv_iconst (v := 0) hx hb dX7_makeContrary_18 (by decide) ?_
        refine lv_istore_n (lv' := [(3, .int (0 : Int32)), (0, .ref h_t), (1, .ref h_p1), (2, .int x2)]) hx hb dX7_makeContrary_19 rfl hl (by decide) rfl (fun ls hl => ?_)
        obtain ⟨I20, m20, hI20, hB20⟩ := h
        have L20 : ∀ (x2 : Int32) (I20 : Int32 → (Nat → Int32) → Prop) (m20 : Int32 → (Nat → Int32) → Nat), (∀ (x3 : Int32) (t_cells : Nat → Int32), I20 x3 t_cells → pX7_makeContrary_20 p1_n p1_cells R10 K t_n x2 x3 t_cells (fun x3' t_cells' => I20 x3' t_cells' ∧ m20 x3' t_cells' < m20 x3 t_cells)) → ∀ (n : Nat) (x3 : Int32) (t_cells : Nat → Int32) (H : Heap) (locs : List Loc) (ls : Array Slot), I20 x3 t_cells → m20 x3 t_cells < n → va_P G vwCl (w_X7_makeContrary Y h_t h_p1 B_t B_p1 t_n t_cells p1_n p1_cells) H → va_D A (w_X7_makeContrary Y h_t h_p1 B_t B_p1 t_n t_cells p1_n p1_cells) → va_S A s.heap H locs → lv_has ls 4 [(0, .ref h_t), (1, .ref h_p1), (2, .int x2), (3, .int x3)] → W p l e R s m args below meth c H locs 0 0 Q (F0 m 20 ls []) := by
          intro x2 I20 m20 hB20 n
          induction n with
          | zero => intro x3 t_cells H locs ls _ hm; exact absurd hm (Nat.not_lt_zero _)
          | succ n ih =>
            intro x3 t_cells H locs ls hI hm hP hD hS hl
            obtain ⟨R20, h, rec20⟩ : ∃ R20 : Int32 → (Nat → Int32) → Prop, pX7_makeContrary_20 p1_n p1_cells R10 K t_n x2 x3 t_cells R20 ∧ ∀ (x3 : Int32) (t_cells : Nat → Int32) (H : Heap) (locs : List Loc) (ls : Array Slot), R20 x3 t_cells → va_P G vwCl (w_X7_makeContrary Y h_t h_p1 B_t B_p1 t_n t_cells p1_n p1_cells) H → va_D A (w_X7_makeContrary Y h_t h_p1 B_t B_p1 t_n t_cells p1_n p1_cells) → va_S A s.heap H locs → lv_has ls 4 [(0, .ref h_t), (1, .ref h_p1), (2, .int x2), (3, .int x3)] → W p l e R s m args below meth c H locs 0 0 Q (F0 m 20 ls []) := ⟨_, hB20 x3 t_cells hI, fun x3 t_cells H locs ls hh hP hD hS hl => ih x3 t_cells H locs ls hh.1 (Nat.lt_of_lt_of_le hh.2 (Nat.le_of_lt_succ hm)) hP hD hS hl⟩
            refine lv_iload_n hx hb dX7_makeContrary_20 rfl (lv_at hl 3 rfl) ?_
            refine lv_aload_n hx hb dX7_makeContrary_21 rfl (lv_at hl 0 rfl) ?_
            refine va_get (D := G) (ci := 6) (v := .int t_n) (C := RX7) (T := TX7) (N := 2) hx hb hts inX7 hown hK hP 0 rfl rfl 1 (by decide) hf15 (fun _ h9 => h9) rfl dX7_makeContrary_22 ?_
            obtain ⟨ht, hf⟩ := h
            refine lv_icmp_ge (tgt := 46) hx hb dX7_makeContrary_25 (by decide) (fun c9 => ?_) (fun c9 => ?_)
            · have h := ht c9
              refine lv_iinc (v := (x2 + 1)) (lv' := [(2, .int (x2 + 1)), (0, .ref h_t), (1, .ref h_p1), (3, .int x3)]) hx hb dX7_makeContrary_46 hl (k := 2) rfl rfl (by decide) rfl (fun ls hl => ?_)
              refine lv_goto (tgt := 10) hx hb dX7_makeContrary_49 (by decide) ?_
              exact rec10 (x2 + 1) t_cells H locs ls h hP hD hS (lv_sub hl [1, 2, 0] rfl)
            · have h := hf c9
              refine lv_aload_n hx hb dX7_makeContrary_28 rfl (lv_at hl 0 rfl) ?_
              refine lv_iload_n hx hb dX7_makeContrary_29 rfl (lv_at hl 2 rfl) ?_
              refine lv_aload_n hx hb dX7_makeContrary_30 rfl (lv_at hl 1 rfl) ?_
              refine lv_iload_n hx hb dX7_makeContrary_31 rfl (lv_at hl 2 rfl) ?_
              refine lv_iload_n hx hb dX7_makeContrary_32 rfl (lv_at hl 3 rfl) ?_
              refine mc_iV ⟨hx, hb, hml, hown, hts⟩ hK hE hA hP hD hS (c_X7_turned l G Y tF H.size h_p1 B_p1 p1_n p1_cells x2 x3 h) (cwV 2 hts gX7_makeContrary_X7_turned rfl rfl rfl (by decide +kernel) ⟨Nat.le_trans (by decide) hRf, Nat.le_trans (by decide) hRl⟩) (fun u => (w_X7_makeContrary Y h_t h_p1 B_t B_p1 t_n t_cells p1_n p1_cells)) [2, 3] [0, 1] [0, 1, 2, 3] rfl rfl rfl rfl (by decide) (fun _ => rfl) rfl 2 6 rfl rfl rfl rfl hl.1 rfl (Nat.le_of_ble_eq_true rfl) dX7_makeContrary_33 (fun r33 u H locs h hP hD hS => ?_)
              try dsimp only at h
              have hP : va_P G vwCl (w_X7_makeContrary Y h_t h_p1 B_t B_p1 t_n t_cells p1_n p1_cells) H := hP
              have hD : va_D A (w_X7_makeContrary Y h_t h_p1 B_t B_p1 t_n t_cells p1_n p1_cells) := hD
              refine lv_iload_n hx hb dX7_makeContrary_36 rfl (lv_at hl 3 rfl) ?_
              refine mc_vV ⟨hx, hb, hml, hown, hts⟩ hK hE hA hP hD hS (c_X7_put l G Y tF H.size h_t B_t t_n t_cells x2 r33 x3 h) (cwV 3 hts gX7_makeContrary_X7_put rfl rfl rfl (by decide +kernel) ⟨Nat.le_trans (by decide) hRf, Nat.le_trans (by decide) hRl⟩) (fun u => (w_X7_makeContrary Y h_t h_p1 B_t B_p1 t_n u p1_n p1_cells)) [0, 1] [2, 3] [2, 3, 0, 1] rfl rfl rfl rfl (by decide) (fun _ => rfl) rfl 0 6 rfl rfl rfl rfl hl.1 rfl (Nat.le_of_ble_eq_true rfl) dX7_makeContrary_37 (fun u H locs h hP hD hS => ?_)
              obtain ⟨t_cells_37, rfl⟩ : ∃ z, z = u := ⟨_, rfl⟩
              try dsimp only at h
              have hP : va_P G vwCl (w_X7_makeContrary Y h_t h_p1 B_t B_p1 t_n t_cells_37 p1_n p1_cells) H := hP
              have hD : va_D A (w_X7_makeContrary Y h_t h_p1 B_t B_p1 t_n t_cells_37 p1_n p1_cells) := hD
              refine lv_iinc (v := (x3 + 1)) (lv' := [(3, .int (x3 + 1)), (0, .ref h_t), (1, .ref h_p1), (2, .int x2)]) hx hb dX7_makeContrary_40 hl (k := 3) rfl rfl (by decide) rfl (fun ls hl => ?_)
              refine lv_goto (tgt := 20) hx hb dX7_makeContrary_43 (by decide) ?_
              exact rec20 (x3 + 1) t_cells_37 H locs ls h hP hD hS (lv_sub hl [1, 2, 3, 0] rfl)
        exact L20 x2 I20 m20 hB20 _ (0 : Int32) t_cells H locs ls hI20 (Nat.lt_succ_self _) hP hD hS (lv_sub hl [1, 2, 3, 0] rfl)
  exact L10 p1_n I10 m10 hB10 _ (0 : Int32) t_cells H locs ls hI10 (Nat.lt_succ_self _) hP hD hS (lv_sub hl [1, 2, 0] rfl)

set_option maxHeartbeats 4000000 in
set_option maxRecDepth 100000 in
theorem c_X7_makeContrary (l : Launch) (G : va_G) (Y : Nat → ClassId) (tF sz : Nat) (h_t : Nat) (h_p1 : Nat) (B_t : Nat → Nat) (B_p1 : Nat → Nat) (t_n : Int32) (t_cells : Nat → Int32) (p1_n : Int32) (p1_cells : Nat → Int32) {K : Int32 → (Nat → Int32) → Prop} (h : pX7_makeContrary t_n t_cells p1_n p1_cells K) : Met l yX7_makeContrary wsX7_makeContrary ({ frames := 1, cells := 0, slots := 0, locals := 23 }) (PcM G Y tF sz (w_X7_makeContrary Y h_t h_p1 B_t B_p1 t_n t_cells p1_n p1_cells) [.ref h_t, .ref h_p1]) (va_Qv (fun u : Int32 × (Nat → Int32) => K u.1 u.2) (fun u t => BM G Y (va_A (w_X7_makeContrary Y h_t h_p1 B_t B_p1 t_n t_cells p1_n p1_cells) sz) (w_X7_makeContrary Y h_t h_p1 B_t B_p1 u.1 u.2 p1_n p1_cells) t) (va_A (w_X7_makeContrary Y h_t h_p1 B_t B_p1 t_n t_cells p1_n p1_cells) sz)) 0 0 (va_A (w_X7_makeContrary Y h_t h_p1 B_t B_p1 t_n t_cells p1_n p1_cells) sz) := by
  refine Met.ofW (cc := cX7_makeContrary) (maxL := 4) (ret := none) (by decide +kernel) rfl ?_
  intro p e s m args below meth c s₁ B hml hv
  obtain ⟨rfl, hsz, hP, hK, hD0, hE⟩ := hv
  have hts := atoms_spec (ws := wsX7_makeContrary) B.pre
  have hown : s.vm.findClass RX7 = some m.cls := findClass_of_methodNamed B.named
  have hlocks := B.notSynchronized
  subst hsz
  have hD := hD0.self (sz := s.heap.size)
  exact wk_X7_makeContrary h_t h_p1 B_t B_p1 t_n t_cells p1_n p1_cells B.exec B.bytes hml hown hts hK hE (fun q h => Or.inr h) (Nat.le_refl _) (Nat.le_refl _) (fun t_n t_cells H locs ls pc hP hD hS hk hd => W.vret B.exec B.bytes B.returns (fun t ht hW => ⟨⟨(t_n, t_cells), rfl, hk, by rw [ht]; exact hP, va_K.moved hW.alike hK, hD⟩, hS.F ht⟩) hS.2.2 hd) hP hD h

abbrev w_X7_firstTornRow (Y : Nat → ClassId) (h_t : Nat) (B_t : Nat → Nat) (t_n : Int32) (t_cells : Nat → Int32) : va_W := [(h_t, .inr (6, [.ref (B_t 0), .int t_n])), ((B_t 0), .inl (Y 0, 64, .inl t_cells))]

set_option maxHeartbeats 4000000 in
set_option maxRecDepth 100000 in
theorem wk_X7_firstTornRow {p : Program} {l : Launch} {e : Env} {R : Room} {s : State} {m : MethodId} {args : Array Value} {below : List Frame} {meth : Method} {c : Code} {Q : State → Prop} {G : va_G} {Y : Nat → ClassId} {tF : Nat} {A : Nat → Prop} (h_t : Nat) (B_t : Nat → Nat) (t_n : Int32) (t_cells : Nat → Int32) {K : Int32 → Prop} (hx : p.tables.exec = Jvm.exec) (hb : c.code = cX7_firstTornRow) (hml : c.maxLocals = 5) (hown : s.vm.findClass RX7 = some m.cls) (hts : ∀ w ∈ wsX7_firstTornRow, w.before args s = true) (hK : va_K G vwCl (tyL Y) s) (hE : Ev A tF s) (hA : ∀ q, s.heap.size ≤ q → A q) (hRf : 1 ≤ R.frames) (hRl : 22 ≤ R.locals) (hret : ∀ (r : Int32)  (H : Heap) (locs : List Loc) (ls : Array Slot) (pc : Nat), va_P G vwCl (w_X7_firstTornRow Y h_t B_t t_n t_cells) H → va_D A (w_X7_firstTornRow Y h_t B_t t_n t_cells) → va_S A s.heap H locs → K r → decode cX7_firstTornRow pc = .ok (.ireturn, 1) → W p l e R s m args below meth c H locs 0 0 Q (F0 m pc ls [.int r])) (hP : va_P G vwCl (w_X7_firstTornRow Y h_t B_t t_n t_cells) s.heap) (hD : va_D A (w_X7_firstTornRow Y h_t B_t t_n t_cells)) (h : pX7_firstTornRow t_n t_cells K) : W p l e R s m args below meth c s.heap [] 0 0 Q (entryFrame m ([.ref h_t] : List Value).toArray 5) := by
  have inX7 : ∀ w ∈ u_ws RX7 TX7 2, w ∈ wsX7_firstTornRow := by decide +kernel
  have hf15 := hts (.fieldLink RX7 15 "RackBench$Table" "n" "I") (by decide +kernel)
  have hl := lv_entry ([.ref h_t]) (n := 5) (Nat.le_of_ble_eq_true rfl)
  rw [lg_entry_eq]
  generalize (lg_sl ([.ref h_t]) ++ List.replicate (5 - (lg_sl ([.ref h_t])).length) Slot.unset).toArray = ls at hl ⊢
  have hl : lv_has ls 5 [(0, .ref h_t)] := hl
  generalize hH0 : s.heap = H at hP ⊢
  have hS : va_S A s.heap H [] := by rw [← hH0]; exact va_S.rf
  clear hH0
  generalize ([] : List Loc) = locs at hS ⊢
  refine lv_iconst (v := 1) hx hb dX7_firstTornRow_0 (by decide) ?_
  refine lv_aload_n hx hb dX7_firstTornRow_1 rfl (lv_at hl 0 rfl) ?_
  refine va_get (D := G) (ci := 6) (v := .int t_n) (C := RX7) (T := TX7) (N := 2) hx hb hts inX7 hown hK hP 0 rfl rfl 1 (by decide) hf15 (fun _ h9 => h9) rfl dX7_firstTornRow_2 ?_
  refine lv_ishl hx hb dX7_firstTornRow_5 ?_
  refine lv_iconst (v := 1) hx hb dX7_firstTornRow_6 (by decide) ?_
  refine lv_isub hx hb dX7_firstTornRow_7 ?_
  refine lv_istore_n (lv' := [(1, .int (((1 : Int32) <<< (t_n &&& 31)) - (1 : Int32))), (0, .ref h_t)]) hx hb dX7_firstTornRow_8 rfl hl (by decide) rfl (fun ls hl => ?_)
  refine lv_iconst (v := 0) hx hb dX7_firstTornRow_9 (by decide) ?_
  refine lv_istore_n (lv' := [(2, .int (0 : Int32)), (1, .int (((1 : Int32) <<< (t_n &&& 31)) - (1 : Int32))), (0, .ref h_t)]) hx hb dX7_firstTornRow_10 rfl hl (by decide) rfl (fun ls hl => ?_)
  obtain ⟨I11, m11, hI11, hB11⟩ := h
  have L11 : ∀ (x1 : Int32) (I11 : Int32 → Prop) (m11 : Int32 → Nat), (∀ (x2 : Int32), I11 x2 → pX7_firstTornRow_11 t_n t_cells K x1 x2 (fun x2' => I11 x2' ∧ m11 x2' < m11 x2)) → ∀ (n : Nat) (x2 : Int32) (H : Heap) (locs : List Loc) (ls : Array Slot), I11 x2 → m11 x2 < n → va_P G vwCl (w_X7_firstTornRow Y h_t B_t t_n t_cells) H → va_D A (w_X7_firstTornRow Y h_t B_t t_n t_cells) → va_S A s.heap H locs → lv_has ls 5 [(0, .ref h_t), (1, .int x1), (2, .int x2)] → W p l e R s m args below meth c H locs 0 0 Q (F0 m 11 ls []) := by
    intro x1 I11 m11 hB11 n
    induction n with
    | zero => intro x2 H locs ls _ hm; exact absurd hm (Nat.not_lt_zero _)
    | succ n ih =>
      intro x2 H locs ls hI hm hP hD hS hl
      obtain ⟨R11, h, rec11⟩ : ∃ R11 : Int32 → Prop, pX7_firstTornRow_11 t_n t_cells K x1 x2 R11 ∧ ∀ (x2 : Int32) (H : Heap) (locs : List Loc) (ls : Array Slot), R11 x2 → va_P G vwCl (w_X7_firstTornRow Y h_t B_t t_n t_cells) H → va_D A (w_X7_firstTornRow Y h_t B_t t_n t_cells) → va_S A s.heap H locs → lv_has ls 5 [(0, .ref h_t), (1, .int x1), (2, .int x2)] → W p l e R s m args below meth c H locs 0 0 Q (F0 m 11 ls []) := ⟨_, hB11 x2 hI, fun x2 H locs ls hh hP hD hS hl => ih x2 H locs ls hh.1 (Nat.lt_of_lt_of_le hh.2 (Nat.le_of_lt_succ hm)) hP hD hS hl⟩
      refine lv_iload_n hx hb dX7_firstTornRow_11 rfl (lv_at hl 2 rfl) ?_
      refine lv_aload_n hx hb dX7_firstTornRow_12 rfl (lv_at hl 0 rfl) ?_
      refine va_get (D := G) (ci := 6) (v := .int t_n) (C := RX7) (T := TX7) (N := 2) hx hb hts inX7 hown hK hP 0 rfl rfl 1 (by decide) hf15 (fun _ h9 => h9) rfl dX7_firstTornRow_13 ?_
      obtain ⟨ht, hf⟩ := h
      refine lv_icmp_ge (tgt := 64) hx hb dX7_firstTornRow_16 (by decide) (fun c9 => ?_) (fun c9 => ?_)
      · have h := ht c9
        refine lv_iconst (v := -1) hx hb dX7_firstTornRow_64 (by decide) ?_
        exact hret (-1 : Int32)  H locs ls _ hP hD hS h dX7_firstTornRow_65
      · have h := hf c9
        refine lv_iconst (v := 0) hx hb dX7_firstTornRow_19 (by decide) ?_
        refine lv_istore_n (lv' := [(3, .int (0 : Int32)), (0, .ref h_t), (1, .int x1), (2, .int x2)]) hx hb dX7_firstTornRow_20 rfl hl (by decide) rfl (fun ls hl => ?_)
        refine lv_iconst (v := 0) hx hb dX7_firstTornRow_21 (by decide) ?_
        refine lv_istore (lv' := [(4, .int (0 : Int32)), (3, .int (0 : Int32)), (0, .ref h_t), (1, .int x1), (2, .int x2)]) hx hb dX7_firstTornRow_22 hl (by decide) rfl (fun ls hl => ?_)
        obtain ⟨I24, m24, hI24, hB24⟩ := h
        have L24 : ∀ (x2 : Int32) (I24 : Int32 → Int32 → Prop) (m24 : Int32 → Int32 → Nat), (∀ (x3 : Int32) (x4 : Int32), I24 x3 x4 → pX7_firstTornRow_24 t_n t_cells R11 K x1 x2 x3 x4 (fun x3' x4' => I24 x3' x4' ∧ m24 x3' x4' < m24 x3 x4)) → ∀ (n : Nat) (x3 : Int32) (x4 : Int32) (H : Heap) (locs : List Loc) (ls : Array Slot), I24 x3 x4 → m24 x3 x4 < n → va_P G vwCl (w_X7_firstTornRow Y h_t B_t t_n t_cells) H → va_D A (w_X7_firstTornRow Y h_t B_t t_n t_cells) → va_S A s.heap H locs → lv_has ls 5 [(0, .ref h_t), (1, .int x1), (2, .int x2), (3, .int x3), (4, .int x4)] → W p l e R s m args below meth c H locs 0 0 Q (F0 m 24 ls []) := by
          intro x2 I24 m24 hB24 n
          induction n with
          | zero => intro x3 x4 H locs ls _ hm; exact absurd hm (Nat.not_lt_zero _)
          | succ n ih =>
            intro x3 x4 H locs ls hI hm hP hD hS hl
            obtain ⟨R24, h, rec24⟩ : ∃ R24 : Int32 → Int32 → Prop, pX7_firstTornRow_24 t_n t_cells R11 K x1 x2 x3 x4 R24 ∧ ∀ (x3 : Int32) (x4 : Int32) (H : Heap) (locs : List Loc) (ls : Array Slot), R24 x3 x4 → va_P G vwCl (w_X7_firstTornRow Y h_t B_t t_n t_cells) H → va_D A (w_X7_firstTornRow Y h_t B_t t_n t_cells) → va_S A s.heap H locs → lv_has ls 5 [(0, .ref h_t), (1, .int x1), (2, .int x2), (3, .int x3), (4, .int x4)] → W p l e R s m args below meth c H locs 0 0 Q (F0 m 24 ls []) := ⟨_, hB24 x3 x4 hI, fun x3 x4 H locs ls hh hP hD hS hl => ih x3 x4 H locs ls hh.1 (Nat.lt_of_lt_of_le hh.2 (Nat.le_of_lt_succ hm)) hP hD hS hl⟩
            refine lv_iload hx hb dX7_firstTornRow_24 (lv_at hl 4 rfl) ?_
            refine lv_aload_n hx hb dX7_firstTornRow_26 rfl (lv_at hl 0 rfl) ?_
            refine va_get (D := G) (ci := 6) (v := .int t_n) (C := RX7) (T := TX7) (N := 2) hx hb hts inX7 hown hK hP 0 rfl rfl 1 (by decide) hf15 (fun _ h9 => h9) rfl dX7_firstTornRow_27 ?_
            obtain ⟨ht, hf⟩ := h
            refine lv_icmp_ge (tgt := 51) hx hb dX7_firstTornRow_30 (by decide) (fun c9 => ?_) (fun c9 => ?_)
            · have h := ht c9
              refine lv_iload_n hx hb dX7_firstTornRow_51 rfl (lv_at hl 3 rfl) ?_
              refine lv_iload_n hx hb dX7_firstTornRow_52 rfl (lv_at hl 1 rfl) ?_
              obtain ⟨ht, hf⟩ := h
              refine lv_icmp_eq (tgt := 58) hx hb dX7_firstTornRow_53 (by decide) (fun c9 => ?_) (fun c9 => ?_)
              · have h := ht c9
                refine lv_iinc (v := (x2 + 1)) (lv' := [(2, .int (x2 + 1)), (0, .ref h_t), (1, .int x1), (3, .int x3), (4, .int x4)]) hx hb dX7_firstTornRow_58 hl (k := 2) rfl rfl (by decide) rfl (fun ls hl => ?_)
                refine lv_goto (tgt := 11) hx hb dX7_firstTornRow_61 (by decide) ?_
                exact rec11 (x2 + 1) H locs ls h hP hD hS (lv_sub hl [1, 2, 0] rfl)
              · have h := hf c9
                refine lv_iload_n hx hb dX7_firstTornRow_56 rfl (lv_at hl 2 rfl) ?_
                exact hret x2  H locs ls _ hP hD hS h dX7_firstTornRow_57
            · have h := hf c9
              refine lv_iload_n hx hb dX7_firstTornRow_33 rfl (lv_at hl 3 rfl) ?_
              refine lv_iconst (v := 1) hx hb dX7_firstTornRow_34 (by decide) ?_
              refine lv_aload_n hx hb dX7_firstTornRow_35 rfl (lv_at hl 0 rfl) ?_
              refine lv_iload_n hx hb dX7_firstTornRow_36 rfl (lv_at hl 2 rfl) ?_
              refine lv_iload hx hb dX7_firstTornRow_37 (lv_at hl 4 rfl) ?_
              refine mc_iV ⟨hx, hb, hml, hown, hts⟩ hK hE hA hP hD hS (c_X7_turned l G Y tF H.size h_t B_t t_n t_cells x2 x4 h) (cwV 2 hts gX7_firstTornRow_X7_turned rfl rfl rfl (by decide +kernel) ⟨Nat.le_trans (by decide) hRf, Nat.le_trans (by decide) hRl⟩) (fun u => (w_X7_firstTornRow Y h_t B_t t_n t_cells)) [0, 1] [] [0, 1] rfl rfl rfl rfl (by decide) (fun _ => rfl) rfl 0 6 rfl rfl rfl rfl hl.1 rfl (Nat.le_of_ble_eq_true rfl) dX7_firstTornRow_39 (fun r39 u H locs h hP hD hS => ?_)
              try dsimp only at h
              have hP : va_P G vwCl (w_X7_firstTornRow Y h_t B_t t_n t_cells) H := hP
              have hD : va_D A (w_X7_firstTornRow Y h_t B_t t_n t_cells) := hD
              refine lv_ishl hx hb dX7_firstTornRow_42 ?_
              refine lv_ior hx hb dX7_firstTornRow_43 ?_
              refine lv_istore_n (lv' := [(3, .int (x3 ||| ((1 : Int32) <<< (r39 &&& 31)))), (0, .ref h_t), (1, .int x1), (2, .int x2), (4, .int x4)]) hx hb dX7_firstTornRow_44 rfl hl (by decide) rfl (fun ls hl => ?_)
              refine lv_iinc (v := (x4 + 1)) (lv' := [(4, .int (x4 + 1)), (3, .int (x3 ||| ((1 : Int32) <<< (r39 &&& 31)))), (0, .ref h_t), (1, .int x1), (2, .int x2)]) hx hb dX7_firstTornRow_45 hl (k := 4) rfl rfl (by decide) rfl (fun ls hl => ?_)
              refine lv_goto (tgt := 24) hx hb dX7_firstTornRow_48 (by decide) ?_
              exact rec24 (x3 ||| ((1 : Int32) <<< (r39 &&& 31))) (x4 + 1) H locs ls h hP hD hS (lv_sub hl [2, 3, 4, 1, 0] rfl)
        exact L24 x2 I24 m24 hB24 _ (0 : Int32) (0 : Int32) H locs ls hI24 (Nat.lt_succ_self _) hP hD hS (lv_sub hl [2, 3, 4, 1, 0] rfl)
  exact L11 (((1 : Int32) <<< (t_n &&& 31)) - (1 : Int32)) I11 m11 hB11 _ (0 : Int32) H locs ls hI11 (Nat.lt_succ_self _) hP hD hS (lv_sub hl [2, 1, 0] rfl)

set_option maxHeartbeats 4000000 in
set_option maxRecDepth 100000 in
theorem c_X7_firstTornRow (l : Launch) (G : va_G) (Y : Nat → ClassId) (tF sz : Nat) (h_t : Nat) (B_t : Nat → Nat) (t_n : Int32) (t_cells : Nat → Int32) {K : Int32 → Prop} (h : pX7_firstTornRow t_n t_cells K) : Met l yX7_firstTornRow wsX7_firstTornRow ({ frames := 1, cells := 0, slots := 0, locals := 22 }) (PcM G Y tF sz (w_X7_firstTornRow Y h_t B_t t_n t_cells) [.ref h_t]) (va_Qi (fun (r : Int32) (u : Unit) => K r ) (fun u t => BM G Y (va_A (w_X7_firstTornRow Y h_t B_t t_n t_cells) sz) (w_X7_firstTornRow Y h_t B_t t_n t_cells) t) (va_A (w_X7_firstTornRow Y h_t B_t t_n t_cells) sz)) 0 0 (va_A (w_X7_firstTornRow Y h_t B_t t_n t_cells) sz) := by
  refine Met.ofW (cc := cX7_firstTornRow) (maxL := 5) (ret := (some .int)) (by decide +kernel) rfl ?_
  intro p e s m args below meth c s₁ B hml hv
  obtain ⟨rfl, hsz, hP, hK, hD0, hE⟩ := hv
  have hts := atoms_spec (ws := wsX7_firstTornRow) B.pre
  have hown : s.vm.findClass RX7 = some m.cls := findClass_of_methodNamed B.named
  have hlocks := B.notSynchronized
  subst hsz
  have hD := hD0.self (sz := s.heap.size)
  exact wk_X7_firstTornRow h_t B_t t_n t_cells B.exec B.bytes hml hown hts hK hE (fun q h => Or.inr h) (Nat.le_refl _) (Nat.le_refl _) (fun r  H locs ls pc hP hD hS hk hd => W.iret (v := r) B.exec B.bytes B.returns (fun t ht hW => ⟨⟨r, (), rfl, hk, by rw [ht]; exact hP, va_K.moved hW.alike hK, hD⟩, hS.F ht⟩) hS.2.2 hd) hP hD h

abbrev w_X7_firstBrokenTriple (Y : Nat → ClassId) (h_t : Nat) (B_t : Nat → Nat) (t_n : Int32) (t_cells : Nat → Int32) : va_W := [(h_t, .inr (6, [.ref (B_t 0), .int t_n])), ((B_t 0), .inl (Y 0, 64, .inl t_cells))]

set_option maxHeartbeats 4000000 in
set_option maxRecDepth 100000 in
theorem wk_X7_firstBrokenTriple {p : Program} {l : Launch} {e : Env} {R : Room} {s : State} {m : MethodId} {args : Array Value} {below : List Frame} {meth : Method} {c : Code} {Q : State → Prop} {G : va_G} {Y : Nat → ClassId} {tF : Nat} {A : Nat → Prop} (h_t : Nat) (B_t : Nat → Nat) (t_n : Int32) (t_cells : Nat → Int32) {K : Int32 → Prop} (hx : p.tables.exec = Jvm.exec) (hb : c.code = cX7_firstBrokenTriple) (hml : c.maxLocals = 4) (hown : s.vm.findClass RX7 = some m.cls) (hts : ∀ w ∈ wsX7_firstBrokenTriple, w.before args s = true) (hK : va_K G vwCl (tyL Y) s) (hE : Ev A tF s) (hA : ∀ q, s.heap.size ≤ q → A q) (hRf : 1 ≤ R.frames) (hRl : 22 ≤ R.locals) (hret : ∀ (r : Int32)  (H : Heap) (locs : List Loc) (ls : Array Slot) (pc : Nat), va_P G vwCl (w_X7_firstBrokenTriple Y h_t B_t t_n t_cells) H → va_D A (w_X7_firstBrokenTriple Y h_t B_t t_n t_cells) → va_S A s.heap H locs → K r → decode cX7_firstBrokenTriple pc = .ok (.ireturn, 1) → W p l e R s m args below meth c H locs 0 0 Q (F0 m pc ls [.int r])) (hP : va_P G vwCl (w_X7_firstBrokenTriple Y h_t B_t t_n t_cells) s.heap) (hD : va_D A (w_X7_firstBrokenTriple Y h_t B_t t_n t_cells)) (h : pX7_firstBrokenTriple t_n t_cells K) : W p l e R s m args below meth c s.heap [] 0 0 Q (entryFrame m ([.ref h_t] : List Value).toArray 4) := by
  have inX7 : ∀ w ∈ u_ws RX7 TX7 2, w ∈ wsX7_firstBrokenTriple := by decide +kernel
  have hf15 := hts (.fieldLink RX7 15 "RackBench$Table" "n" "I") (by decide +kernel)
  have hl := lv_entry ([.ref h_t]) (n := 4) (Nat.le_of_ble_eq_true rfl)
  rw [lg_entry_eq]
  generalize (lg_sl ([.ref h_t]) ++ List.replicate (4 - (lg_sl ([.ref h_t])).length) Slot.unset).toArray = ls at hl ⊢
  have hl : lv_has ls 4 [(0, .ref h_t)] := hl
  generalize hH0 : s.heap = H at hP ⊢
  have hS : va_S A s.heap H [] := by rw [← hH0]; exact va_S.rf
  clear hH0
  generalize ([] : List Loc) = locs at hS ⊢
  refine lv_iconst (v := 0) hx hb dX7_firstBrokenTriple_0 (by decide) ?_
  refine lv_istore_n (lv' := [(1, .int (0 : Int32)), (0, .ref h_t)]) hx hb dX7_firstBrokenTriple_1 rfl hl (by decide) rfl (fun ls hl => ?_)
  obtain ⟨I2, m2, hI2, hB2⟩ := h
  have L2 : ∀  (I2 : Int32 → Prop) (m2 : Int32 → Nat), (∀ (x1 : Int32), I2 x1 → pX7_firstBrokenTriple_2 t_n t_cells K x1 (fun x1' => I2 x1' ∧ m2 x1' < m2 x1)) → ∀ (n : Nat) (x1 : Int32) (H : Heap) (locs : List Loc) (ls : Array Slot), I2 x1 → m2 x1 < n → va_P G vwCl (w_X7_firstBrokenTriple Y h_t B_t t_n t_cells) H → va_D A (w_X7_firstBrokenTriple Y h_t B_t t_n t_cells) → va_S A s.heap H locs → lv_has ls 4 [(0, .ref h_t), (1, .int x1)] → W p l e R s m args below meth c H locs 0 0 Q (F0 m 2 ls []) := by
    intro  I2 m2 hB2 n
    induction n with
    | zero => intro x1 H locs ls _ hm; exact absurd hm (Nat.not_lt_zero _)
    | succ n ih =>
      intro x1 H locs ls hI hm hP hD hS hl
      obtain ⟨R2, h, rec2⟩ : ∃ R2 : Int32 → Prop, pX7_firstBrokenTriple_2 t_n t_cells K x1 R2 ∧ ∀ (x1 : Int32) (H : Heap) (locs : List Loc) (ls : Array Slot), R2 x1 → va_P G vwCl (w_X7_firstBrokenTriple Y h_t B_t t_n t_cells) H → va_D A (w_X7_firstBrokenTriple Y h_t B_t t_n t_cells) → va_S A s.heap H locs → lv_has ls 4 [(0, .ref h_t), (1, .int x1)] → W p l e R s m args below meth c H locs 0 0 Q (F0 m 2 ls []) := ⟨_, hB2 x1 hI, fun x1 H locs ls hh hP hD hS hl => ih x1 H locs ls hh.1 (Nat.lt_of_lt_of_le hh.2 (Nat.le_of_lt_succ hm)) hP hD hS hl⟩
      refine lv_iload_n hx hb dX7_firstBrokenTriple_2 rfl (lv_at hl 1 rfl) ?_
      refine lv_aload_n hx hb dX7_firstBrokenTriple_3 rfl (lv_at hl 0 rfl) ?_
      refine va_get (D := G) (ci := 6) (v := .int t_n) (C := RX7) (T := TX7) (N := 2) hx hb hts inX7 hown hK hP 0 rfl rfl 1 (by decide) hf15 (fun _ h9 => h9) rfl dX7_firstBrokenTriple_4 ?_
      obtain ⟨ht, hf⟩ := h
      refine lv_icmp_ge (tgt := 90) hx hb dX7_firstBrokenTriple_7 (by decide) (fun c9 => ?_) (fun c9 => ?_)
      · have h := ht c9
        refine lv_iconst (v := -1) hx hb dX7_firstBrokenTriple_90 (by decide) ?_
        exact hret (-1 : Int32)  H locs ls _ hP hD hS h dX7_firstBrokenTriple_91
      · have h := hf c9
        refine lv_iconst (v := 0) hx hb dX7_firstBrokenTriple_10 (by decide) ?_
        refine lv_istore_n (lv' := [(2, .int (0 : Int32)), (0, .ref h_t), (1, .int x1)]) hx hb dX7_firstBrokenTriple_11 rfl hl (by decide) rfl (fun ls hl => ?_)
        obtain ⟨I12, m12, hI12, hB12⟩ := h
        have L12 : ∀ (x1 : Int32) (I12 : Int32 → Prop) (m12 : Int32 → Nat), (∀ (x2 : Int32), I12 x2 → pX7_firstBrokenTriple_12 t_n t_cells R2 K x1 x2 (fun x2' => I12 x2' ∧ m12 x2' < m12 x2)) → ∀ (n : Nat) (x2 : Int32) (H : Heap) (locs : List Loc) (ls : Array Slot), I12 x2 → m12 x2 < n → va_P G vwCl (w_X7_firstBrokenTriple Y h_t B_t t_n t_cells) H → va_D A (w_X7_firstBrokenTriple Y h_t B_t t_n t_cells) → va_S A s.heap H locs → lv_has ls 4 [(0, .ref h_t), (1, .int x1), (2, .int x2)] → W p l e R s m args below meth c H locs 0 0 Q (F0 m 12 ls []) := by
          intro x1 I12 m12 hB12 n
          induction n with
          | zero => intro x2 H locs ls _ hm; exact absurd hm (Nat.not_lt_zero _)
          | succ n ih =>
            intro x2 H locs ls hI hm hP hD hS hl
            obtain ⟨R12, h, rec12⟩ : ∃ R12 : Int32 → Prop, pX7_firstBrokenTriple_12 t_n t_cells R2 K x1 x2 R12 ∧ ∀ (x2 : Int32) (H : Heap) (locs : List Loc) (ls : Array Slot), R12 x2 → va_P G vwCl (w_X7_firstBrokenTriple Y h_t B_t t_n t_cells) H → va_D A (w_X7_firstBrokenTriple Y h_t B_t t_n t_cells) → va_S A s.heap H locs → lv_has ls 4 [(0, .ref h_t), (1, .int x1), (2, .int x2)] → W p l e R s m args below meth c H locs 0 0 Q (F0 m 12 ls []) := ⟨_, hB12 x2 hI, fun x2 H locs ls hh hP hD hS hl => ih x2 H locs ls hh.1 (Nat.lt_of_lt_of_le hh.2 (Nat.le_of_lt_succ hm)) hP hD hS hl⟩
            refine lv_iload_n hx hb dX7_firstBrokenTriple_12 rfl (lv_at hl 2 rfl) ?_
            refine lv_aload_n hx hb dX7_firstBrokenTriple_13 rfl (lv_at hl 0 rfl) ?_
            refine va_get (D := G) (ci := 6) (v := .int t_n) (C := RX7) (T := TX7) (N := 2) hx hb hts inX7 hown hK hP 0 rfl rfl 1 (by decide) hf15 (fun _ h9 => h9) rfl dX7_firstBrokenTriple_14 ?_
            obtain ⟨ht, hf⟩ := h
            refine lv_icmp_ge (tgt := 84) hx hb dX7_firstBrokenTriple_17 (by decide) (fun c9 => ?_) (fun c9 => ?_)
            · have h := ht c9
              refine lv_iinc (v := (x1 + 1)) (lv' := [(1, .int (x1 + 1)), (0, .ref h_t), (2, .int x2)]) hx hb dX7_firstBrokenTriple_84 hl (k := 1) rfl rfl (by decide) rfl (fun ls hl => ?_)
              refine lv_goto (tgt := 2) hx hb dX7_firstBrokenTriple_87 (by decide) ?_
              exact rec2 (x1 + 1) H locs ls h hP hD hS (lv_sub hl [1, 0] rfl)
            · have h := hf c9
              refine lv_iconst (v := 0) hx hb dX7_firstBrokenTriple_20 (by decide) ?_
              refine lv_istore_n (lv' := [(3, .int (0 : Int32)), (0, .ref h_t), (1, .int x1), (2, .int x2)]) hx hb dX7_firstBrokenTriple_21 rfl hl (by decide) rfl (fun ls hl => ?_)
              obtain ⟨I22, m22, hI22, hB22⟩ := h
              have L22 : ∀ (x2 : Int32) (I22 : Int32 → Prop) (m22 : Int32 → Nat), (∀ (x3 : Int32), I22 x3 → pX7_firstBrokenTriple_22 t_n t_cells R2 R12 K x1 x2 x3 (fun x3' => I22 x3' ∧ m22 x3' < m22 x3)) → ∀ (n : Nat) (x3 : Int32) (H : Heap) (locs : List Loc) (ls : Array Slot), I22 x3 → m22 x3 < n → va_P G vwCl (w_X7_firstBrokenTriple Y h_t B_t t_n t_cells) H → va_D A (w_X7_firstBrokenTriple Y h_t B_t t_n t_cells) → va_S A s.heap H locs → lv_has ls 4 [(0, .ref h_t), (1, .int x1), (2, .int x2), (3, .int x3)] → W p l e R s m args below meth c H locs 0 0 Q (F0 m 22 ls []) := by
                intro x2 I22 m22 hB22 n
                induction n with
                | zero => intro x3 H locs ls _ hm; exact absurd hm (Nat.not_lt_zero _)
                | succ n ih =>
                  intro x3 H locs ls hI hm hP hD hS hl
                  obtain ⟨R22, h, rec22⟩ : ∃ R22 : Int32 → Prop, pX7_firstBrokenTriple_22 t_n t_cells R2 R12 K x1 x2 x3 R22 ∧ ∀ (x3 : Int32) (H : Heap) (locs : List Loc) (ls : Array Slot), R22 x3 → va_P G vwCl (w_X7_firstBrokenTriple Y h_t B_t t_n t_cells) H → va_D A (w_X7_firstBrokenTriple Y h_t B_t t_n t_cells) → va_S A s.heap H locs → lv_has ls 4 [(0, .ref h_t), (1, .int x1), (2, .int x2), (3, .int x3)] → W p l e R s m args below meth c H locs 0 0 Q (F0 m 22 ls []) := ⟨_, hB22 x3 hI, fun x3 H locs ls hh hP hD hS hl => ih x3 H locs ls hh.1 (Nat.lt_of_lt_of_le hh.2 (Nat.le_of_lt_succ hm)) hP hD hS hl⟩
                  refine lv_iload_n hx hb dX7_firstBrokenTriple_22 rfl (lv_at hl 3 rfl) ?_
                  refine lv_aload_n hx hb dX7_firstBrokenTriple_23 rfl (lv_at hl 0 rfl) ?_
                  refine va_get (D := G) (ci := 6) (v := .int t_n) (C := RX7) (T := TX7) (N := 2) hx hb hts inX7 hown hK hP 0 rfl rfl 1 (by decide) hf15 (fun _ h9 => h9) rfl dX7_firstBrokenTriple_24 ?_
                  obtain ⟨ht, hf⟩ := h
                  refine lv_icmp_ge (tgt := 78) hx hb dX7_firstBrokenTriple_27 (by decide) (fun c9 => ?_) (fun c9 => ?_)
                  · have h := ht c9
                    refine lv_iinc (v := (x2 + 1)) (lv' := [(2, .int (x2 + 1)), (0, .ref h_t), (1, .int x1), (3, .int x3)]) hx hb dX7_firstBrokenTriple_78 hl (k := 2) rfl rfl (by decide) rfl (fun ls hl => ?_)
                    refine lv_goto (tgt := 12) hx hb dX7_firstBrokenTriple_81 (by decide) ?_
                    exact rec12 (x2 + 1) H locs ls h hP hD hS (lv_sub hl [1, 2, 0] rfl)
                  · have h := hf c9
                    refine lv_aload_n hx hb dX7_firstBrokenTriple_30 rfl (lv_at hl 0 rfl) ?_
                    refine lv_iload_n hx hb dX7_firstBrokenTriple_31 rfl (lv_at hl 1 rfl) ?_
                    refine lv_aload_n hx hb dX7_firstBrokenTriple_32 rfl (lv_at hl 0 rfl) ?_
                    refine lv_iload_n hx hb dX7_firstBrokenTriple_33 rfl (lv_at hl 2 rfl) ?_
                    refine lv_iload_n hx hb dX7_firstBrokenTriple_34 rfl (lv_at hl 3 rfl) ?_
                    refine mc_iV ⟨hx, hb, hml, hown, hts⟩ hK hE hA hP hD hS (c_X7_turned l G Y tF H.size h_t B_t t_n t_cells x2 x3 h) (cwV 2 hts gX7_firstBrokenTriple_X7_turned rfl rfl rfl (by decide +kernel) ⟨Nat.le_trans (by decide) hRf, Nat.le_trans (by decide) hRl⟩) (fun u => (w_X7_firstBrokenTriple Y h_t B_t t_n t_cells)) [0, 1] [] [0, 1] rfl rfl rfl rfl (by decide) (fun _ => rfl) rfl 0 6 rfl rfl rfl rfl hl.1 rfl (Nat.le_of_ble_eq_true rfl) dX7_firstBrokenTriple_35 (fun r35 u H locs h hP hD hS => ?_)
                    try dsimp only at h
                    have hP : va_P G vwCl (w_X7_firstBrokenTriple Y h_t B_t t_n t_cells) H := hP
                    have hD : va_D A (w_X7_firstBrokenTriple Y h_t B_t t_n t_cells) := hD
                    refine mc_iV ⟨hx, hb, hml, hown, hts⟩ hK hE hA hP hD hS (c_X7_turned l G Y tF H.size h_t B_t t_n t_cells x1 r35 h) (cwV 2 hts gX7_firstBrokenTriple_X7_turned rfl rfl rfl (by decide +kernel) ⟨Nat.le_trans (by decide) hRf, Nat.le_trans (by decide) hRl⟩) (fun u => (w_X7_firstBrokenTriple Y h_t B_t t_n t_cells)) [0, 1] [] [0, 1] rfl rfl rfl rfl (by decide) (fun _ => rfl) rfl 0 6 rfl rfl rfl rfl hl.1 rfl (Nat.le_of_ble_eq_true rfl) dX7_firstBrokenTriple_38 (fun r38 u H locs h hP hD hS => ?_)
                    try dsimp only at h
                    have hP : va_P G vwCl (w_X7_firstBrokenTriple Y h_t B_t t_n t_cells) H := hP
                    have hD : va_D A (w_X7_firstBrokenTriple Y h_t B_t t_n t_cells) := hD
                    refine lv_aload_n hx hb dX7_firstBrokenTriple_41 rfl (lv_at hl 0 rfl) ?_
                    refine lv_aload_n hx hb dX7_firstBrokenTriple_42 rfl (lv_at hl 0 rfl) ?_
                    refine lv_iload_n hx hb dX7_firstBrokenTriple_43 rfl (lv_at hl 1 rfl) ?_
                    refine lv_iload_n hx hb dX7_firstBrokenTriple_44 rfl (lv_at hl 2 rfl) ?_
                    refine mc_iV ⟨hx, hb, hml, hown, hts⟩ hK hE hA hP hD hS (c_X7_turned l G Y tF H.size h_t B_t t_n t_cells x1 x2 h) (cwV 2 hts gX7_firstBrokenTriple_X7_turned rfl rfl rfl (by decide +kernel) ⟨Nat.le_trans (by decide) hRf, Nat.le_trans (by decide) hRl⟩) (fun u => (w_X7_firstBrokenTriple Y h_t B_t t_n t_cells)) [0, 1] [] [0, 1] rfl rfl rfl rfl (by decide) (fun _ => rfl) rfl 0 6 rfl rfl rfl rfl hl.1 rfl (Nat.le_of_ble_eq_true rfl) dX7_firstBrokenTriple_45 (fun r45 u H locs h hP hD hS => ?_)
                    try dsimp only at h
                    have hP : va_P G vwCl (w_X7_firstBrokenTriple Y h_t B_t t_n t_cells) H := hP
                    have hD : va_D A (w_X7_firstBrokenTriple Y h_t B_t t_n t_cells) := hD
                    refine lv_aload_n hx hb dX7_firstBrokenTriple_48 rfl (lv_at hl 0 rfl) ?_
                    refine lv_iload_n hx hb dX7_firstBrokenTriple_49 rfl (lv_at hl 1 rfl) ?_
                    refine lv_iload_n hx hb dX7_firstBrokenTriple_50 rfl (lv_at hl 3 rfl) ?_
                    refine mc_iV ⟨hx, hb, hml, hown, hts⟩ hK hE hA hP hD hS (c_X7_turned l G Y tF H.size h_t B_t t_n t_cells x1 x3 h) (cwV 2 hts gX7_firstBrokenTriple_X7_turned rfl rfl rfl (by decide +kernel) ⟨Nat.le_trans (by decide) hRf, Nat.le_trans (by decide) hRl⟩) (fun u => (w_X7_firstBrokenTriple Y h_t B_t t_n t_cells)) [0, 1] [] [0, 1] rfl rfl rfl rfl (by decide) (fun _ => rfl) rfl 0 6 rfl rfl rfl rfl hl.1 rfl (Nat.le_of_ble_eq_true rfl) dX7_firstBrokenTriple_51 (fun r51 u H locs h hP hD hS => ?_)
                    try dsimp only at h
                    have hP : va_P G vwCl (w_X7_firstBrokenTriple Y h_t B_t t_n t_cells) H := hP
                    have hD : va_D A (w_X7_firstBrokenTriple Y h_t B_t t_n t_cells) := hD
                    refine mc_iV ⟨hx, hb, hml, hown, hts⟩ hK hE hA hP hD hS (c_X7_turned l G Y tF H.size h_t B_t t_n t_cells r45 r51 h) (cwV 2 hts gX7_firstBrokenTriple_X7_turned rfl rfl rfl (by decide +kernel) ⟨Nat.le_trans (by decide) hRf, Nat.le_trans (by decide) hRl⟩) (fun u => (w_X7_firstBrokenTriple Y h_t B_t t_n t_cells)) [0, 1] [] [0, 1] rfl rfl rfl rfl (by decide) (fun _ => rfl) rfl 0 6 rfl rfl rfl rfl hl.1 rfl (Nat.le_of_ble_eq_true rfl) dX7_firstBrokenTriple_54 (fun r54 u H locs h hP hD hS => ?_)
                    try dsimp only at h
                    have hP : va_P G vwCl (w_X7_firstBrokenTriple Y h_t B_t t_n t_cells) H := hP
                    have hD : va_D A (w_X7_firstBrokenTriple Y h_t B_t t_n t_cells) := hD
                    obtain ⟨ht, hf⟩ := h
                    refine lv_icmp_eq (tgt := 72) hx hb dX7_firstBrokenTriple_57 (by decide) (fun c9 => ?_) (fun c9 => ?_)
                    · have h := ht c9
                      refine lv_iinc (v := (x3 + 1)) (lv' := [(3, .int (x3 + 1)), (0, .ref h_t), (1, .int x1), (2, .int x2)]) hx hb dX7_firstBrokenTriple_72 hl (k := 3) rfl rfl (by decide) rfl (fun ls hl => ?_)
                      refine lv_goto (tgt := 22) hx hb dX7_firstBrokenTriple_75 (by decide) ?_
                      exact rec22 (x3 + 1) H locs ls h hP hD hS (lv_sub hl [1, 2, 3, 0] rfl)
                    · have h := hf c9
                      refine lv_iload_n hx hb dX7_firstBrokenTriple_60 rfl (lv_at hl 1 rfl) ?_
                      refine lv_bipush (v := 8) hx hb dX7_firstBrokenTriple_61 (by decide) ?_
                      refine lv_imul hx hb dX7_firstBrokenTriple_63 ?_
                      refine lv_iload_n hx hb dX7_firstBrokenTriple_64 rfl (lv_at hl 2 rfl) ?_
                      refine lv_iadd hx hb dX7_firstBrokenTriple_65 ?_
                      refine lv_bipush (v := 8) hx hb dX7_firstBrokenTriple_66 (by decide) ?_
                      refine lv_imul hx hb dX7_firstBrokenTriple_68 ?_
                      refine lv_iload_n hx hb dX7_firstBrokenTriple_69 rfl (lv_at hl 3 rfl) ?_
                      refine lv_iadd hx hb dX7_firstBrokenTriple_70 ?_
                      exact hret ((((x1 * (8 : Int32)) + x2) * (8 : Int32)) + x3)  H locs ls _ hP hD hS h dX7_firstBrokenTriple_71
              exact L22 x2 I22 m22 hB22 _ (0 : Int32) H locs ls hI22 (Nat.lt_succ_self _) hP hD hS (lv_sub hl [1, 2, 3, 0] rfl)
        exact L12 x1 I12 m12 hB12 _ (0 : Int32) H locs ls hI12 (Nat.lt_succ_self _) hP hD hS (lv_sub hl [1, 2, 0] rfl)
  exact L2  I2 m2 hB2 _ (0 : Int32) H locs ls hI2 (Nat.lt_succ_self _) hP hD hS (lv_sub hl [1, 0] rfl)

set_option maxHeartbeats 4000000 in
set_option maxRecDepth 100000 in
theorem c_X7_firstBrokenTriple (l : Launch) (G : va_G) (Y : Nat → ClassId) (tF sz : Nat) (h_t : Nat) (B_t : Nat → Nat) (t_n : Int32) (t_cells : Nat → Int32) {K : Int32 → Prop} (h : pX7_firstBrokenTriple t_n t_cells K) : Met l yX7_firstBrokenTriple wsX7_firstBrokenTriple ({ frames := 1, cells := 0, slots := 0, locals := 22 }) (PcM G Y tF sz (w_X7_firstBrokenTriple Y h_t B_t t_n t_cells) [.ref h_t]) (va_Qi (fun (r : Int32) (u : Unit) => K r ) (fun u t => BM G Y (va_A (w_X7_firstBrokenTriple Y h_t B_t t_n t_cells) sz) (w_X7_firstBrokenTriple Y h_t B_t t_n t_cells) t) (va_A (w_X7_firstBrokenTriple Y h_t B_t t_n t_cells) sz)) 0 0 (va_A (w_X7_firstBrokenTriple Y h_t B_t t_n t_cells) sz) := by
  refine Met.ofW (cc := cX7_firstBrokenTriple) (maxL := 4) (ret := (some .int)) (by decide +kernel) rfl ?_
  intro p e s m args below meth c s₁ B hml hv
  obtain ⟨rfl, hsz, hP, hK, hD0, hE⟩ := hv
  have hts := atoms_spec (ws := wsX7_firstBrokenTriple) B.pre
  have hown : s.vm.findClass RX7 = some m.cls := findClass_of_methodNamed B.named
  have hlocks := B.notSynchronized
  subst hsz
  have hD := hD0.self (sz := s.heap.size)
  exact wk_X7_firstBrokenTriple h_t B_t t_n t_cells B.exec B.bytes hml hown hts hK hE (fun q h => Or.inr h) (Nat.le_refl _) (Nat.le_refl _) (fun r  H locs ls pc hP hD hS hk hd => W.iret (v := r) B.exec B.bytes B.returns (fun t ht hW => ⟨⟨r, (), rfl, hk, by rw [ht]; exact hP, va_K.moved hW.alike hK, hD⟩, hS.F ht⟩) hS.2.2 hd) hP hD h

abbrev w_X7_isRack (Y : Nat → ClassId) (h_t : Nat) (B_t : Nat → Nat) (t_n : Int32) (t_cells : Nat → Int32) : va_W := [(h_t, .inr (6, [.ref (B_t 0), .int t_n])), ((B_t 0), .inl (Y 0, 64, .inl t_cells))]

set_option maxHeartbeats 4000000 in
set_option maxRecDepth 100000 in
theorem wk_X7_isRack {p : Program} {l : Launch} {e : Env} {R : Room} {s : State} {m : MethodId} {args : Array Value} {below : List Frame} {meth : Method} {c : Code} {Q : State → Prop} {G : va_G} {Y : Nat → ClassId} {tF : Nat} {A : Nat → Prop} (h_t : Nat) (B_t : Nat → Nat) (t_n : Int32) (t_cells : Nat → Int32) {K : Int32 → Prop} (hx : p.tables.exec = Jvm.exec) (hb : c.code = cX7_isRack) (hml : c.maxLocals = 1) (hown : s.vm.findClass RX7 = some m.cls) (hts : ∀ w ∈ wsX7_isRack, w.before args s = true) (hK : va_K G vwCl (tyL Y) s) (hE : Ev A tF s) (hA : ∀ q, s.heap.size ≤ q → A q) (hRf : 2 ≤ R.frames) (hRl : 46 ≤ R.locals) (hret : ∀ (r : Int32)  (H : Heap) (locs : List Loc) (ls : Array Slot) (pc : Nat), va_P G vwCl (w_X7_isRack Y h_t B_t t_n t_cells) H → va_D A (w_X7_isRack Y h_t B_t t_n t_cells) → va_S A s.heap H locs → zb r → K r → decode cX7_isRack pc = .ok (.ireturn, 1) → W p l e R s m args below meth c H locs 0 0 Q (F0 m pc ls [.int r])) (hP : va_P G vwCl (w_X7_isRack Y h_t B_t t_n t_cells) s.heap) (hD : va_D A (w_X7_isRack Y h_t B_t t_n t_cells)) (h : pX7_isRack t_n t_cells K) : W p l e R s m args below meth c s.heap [] 0 0 Q (entryFrame m ([.ref h_t] : List Value).toArray 1) := by
  have hl := lv_entry ([.ref h_t]) (n := 1) (Nat.le_of_ble_eq_true rfl)
  rw [lg_entry_eq]
  generalize (lg_sl ([.ref h_t]) ++ List.replicate (1 - (lg_sl ([.ref h_t])).length) Slot.unset).toArray = ls at hl ⊢
  have hl : lv_has ls 1 [(0, .ref h_t)] := hl
  generalize hH0 : s.heap = H at hP ⊢
  have hS : va_S A s.heap H [] := by rw [← hH0]; exact va_S.rf
  clear hH0
  generalize ([] : List Loc) = locs at hS ⊢
  have J20 : ∀  (H : Heap) (locs : List Loc) (ls : Array Slot), pX7_isRack_20 t_n t_cells K → va_P G vwCl (w_X7_isRack Y h_t B_t t_n t_cells) H → va_D A (w_X7_isRack Y h_t B_t t_n t_cells) → va_S A s.heap H locs → lv_has ls 1 [] → W p l e R s m args below meth c H locs 0 0 Q (F0 m 20 ls []) := by
    intro  H locs ls h hP hD hS hl
    refine lv_iconst (v := 0) hx hb dX7_isRack_20 (by decide) ?_
    obtain ⟨hz, h⟩ := h
    exact hret (0 : Int32)  H locs ls _ hP hD hS hz h dX7_isRack_21
  refine lv_aload_n hx hb dX7_isRack_0 rfl (lv_at hl 0 rfl) ?_
  refine mc_iV ⟨hx, hb, hml, hown, hts⟩ hK hE hA hP hD hS (c_X7_firstTornRow l G Y tF H.size h_t B_t t_n t_cells h) (cwV 0 hts gX7_isRack_X7_firstTornRow rfl rfl rfl (by decide +kernel) ⟨Nat.le_trans (by decide) hRf, Nat.le_trans (by decide) hRl⟩) (fun u => (w_X7_isRack Y h_t B_t t_n t_cells)) [0, 1] [] [0, 1] rfl rfl rfl rfl (by decide) (fun _ => rfl) rfl 0 6 rfl rfl rfl rfl hl.1 rfl (Nat.le_of_ble_eq_true rfl) dX7_isRack_1 (fun r1 u H locs h hP hD hS => ?_)
  try dsimp only at h
  have hP : va_P G vwCl (w_X7_isRack Y h_t B_t t_n t_cells) H := hP
  have hD : va_D A (w_X7_isRack Y h_t B_t t_n t_cells) := hD
  refine lv_iconst (v := -1) hx hb dX7_isRack_4 (by decide) ?_
  obtain ⟨ht, hf⟩ := h
  refine lv_icmp_ne (tgt := 20) hx hb dX7_isRack_5 (by decide) (fun c9 => ?_) (fun c9 => ?_)
  · have h := ht c9
    exact J20  H locs ls h hP hD hS (lv_sub hl [] rfl)
  · have h := hf c9
    refine lv_aload_n hx hb dX7_isRack_8 rfl (lv_at hl 0 rfl) ?_
    refine mc_iV ⟨hx, hb, hml, hown, hts⟩ hK hE hA hP hD hS (c_X7_firstBrokenTriple l G Y tF H.size h_t B_t t_n t_cells h) (cwV 0 hts gX7_isRack_X7_firstBrokenTriple rfl rfl rfl (by decide +kernel) ⟨Nat.le_trans (by decide) hRf, Nat.le_trans (by decide) hRl⟩) (fun u => (w_X7_isRack Y h_t B_t t_n t_cells)) [0, 1] [] [0, 1] rfl rfl rfl rfl (by decide) (fun _ => rfl) rfl 0 6 rfl rfl rfl rfl hl.1 rfl (Nat.le_of_ble_eq_true rfl) dX7_isRack_9 (fun r9 u H locs h hP hD hS => ?_)
    try dsimp only at h
    have hP : va_P G vwCl (w_X7_isRack Y h_t B_t t_n t_cells) H := hP
    have hD : va_D A (w_X7_isRack Y h_t B_t t_n t_cells) := hD
    refine lv_iconst (v := -1) hx hb dX7_isRack_12 (by decide) ?_
    obtain ⟨ht, hf⟩ := h
    refine lv_icmp_ne (tgt := 20) hx hb dX7_isRack_13 (by decide) (fun c9 => ?_) (fun c9 => ?_)
    · have h := ht c9
      exact J20  H locs ls h hP hD hS (lv_sub hl [] rfl)
    · have h := hf c9
      refine lv_iconst (v := 1) hx hb dX7_isRack_16 (by decide) ?_
      refine lv_goto (tgt := 21) hx hb dX7_isRack_17 (by decide) ?_
      obtain ⟨hz, h⟩ := h
      exact hret (1 : Int32)  H locs ls _ hP hD hS hz h dX7_isRack_21

set_option maxHeartbeats 4000000 in
set_option maxRecDepth 100000 in
theorem c_X7_isRack (l : Launch) (G : va_G) (Y : Nat → ClassId) (tF sz : Nat) (h_t : Nat) (B_t : Nat → Nat) (t_n : Int32) (t_cells : Nat → Int32) {K : Int32 → Prop} (h : pX7_isRack t_n t_cells K) : Met l yX7_isRack wsX7_isRack ({ frames := 2, cells := 0, slots := 0, locals := 46 }) (PcM G Y tF sz (w_X7_isRack Y h_t B_t t_n t_cells) [.ref h_t]) (va_Qi (fun (r : Int32) (u : Unit) => K r ) (fun u t => BM G Y (va_A (w_X7_isRack Y h_t B_t t_n t_cells) sz) (w_X7_isRack Y h_t B_t t_n t_cells) t) (va_A (w_X7_isRack Y h_t B_t t_n t_cells) sz)) 0 0 (va_A (w_X7_isRack Y h_t B_t t_n t_cells) sz) := by
  refine Met.ofW (cc := cX7_isRack) (maxL := 1) (ret := (some .boolean)) (by decide +kernel) rfl ?_
  intro p e s m args below meth c s₁ B hml hv
  obtain ⟨rfl, hsz, hP, hK, hD0, hE⟩ := hv
  have hts := atoms_spec (ws := wsX7_isRack) B.pre
  have hown : s.vm.findClass RX7 = some m.cls := findClass_of_methodNamed B.named
  have hlocks := B.notSynchronized
  subst hsz
  have hD := hD0.self (sz := s.heap.size)
  exact wk_X7_isRack h_t B_t t_n t_cells B.exec B.bytes hml hown hts hK hE (fun q h => Or.inr h) (Nat.le_refl _) (Nat.le_refl _) (fun r  H locs ls pc hP hD hS hz hk hd => W.zret (v := r) B.exec B.bytes B.returns hz.n (fun t ht hW => ⟨⟨r, (), rfl, hk, by rw [ht]; exact hP, va_K.moved hW.alike hK, hD⟩, hS.F ht⟩) hS.2.2 hd) hP hD h

abbrev w_X7_isIdempotent (Y : Nat → ClassId) (h_t : Nat) (B_t : Nat → Nat) (t_n : Int32) (t_cells : Nat → Int32) : va_W := [(h_t, .inr (6, [.ref (B_t 0), .int t_n])), ((B_t 0), .inl (Y 0, 64, .inl t_cells))]

set_option maxHeartbeats 4000000 in
set_option maxRecDepth 100000 in
theorem wk_X7_isIdempotent {p : Program} {l : Launch} {e : Env} {R : Room} {s : State} {m : MethodId} {args : Array Value} {below : List Frame} {meth : Method} {c : Code} {Q : State → Prop} {G : va_G} {Y : Nat → ClassId} {tF : Nat} {A : Nat → Prop} (h_t : Nat) (B_t : Nat → Nat) (t_n : Int32) (t_cells : Nat → Int32) {K : Int32 → Prop} (hx : p.tables.exec = Jvm.exec) (hb : c.code = cX7_isIdempotent) (hml : c.maxLocals = 2) (hown : s.vm.findClass RX7 = some m.cls) (hts : ∀ w ∈ wsX7_isIdempotent, w.before args s = true) (hK : va_K G vwCl (tyL Y) s) (hE : Ev A tF s) (hA : ∀ q, s.heap.size ≤ q → A q) (hRf : 1 ≤ R.frames) (hRl : 22 ≤ R.locals) (hret : ∀ (r : Int32)  (H : Heap) (locs : List Loc) (ls : Array Slot) (pc : Nat), va_P G vwCl (w_X7_isIdempotent Y h_t B_t t_n t_cells) H → va_D A (w_X7_isIdempotent Y h_t B_t t_n t_cells) → va_S A s.heap H locs → zb r → K r → decode cX7_isIdempotent pc = .ok (.ireturn, 1) → W p l e R s m args below meth c H locs 0 0 Q (F0 m pc ls [.int r])) (hP : va_P G vwCl (w_X7_isIdempotent Y h_t B_t t_n t_cells) s.heap) (hD : va_D A (w_X7_isIdempotent Y h_t B_t t_n t_cells)) (h : pX7_isIdempotent t_n t_cells K) : W p l e R s m args below meth c s.heap [] 0 0 Q (entryFrame m ([.ref h_t] : List Value).toArray 2) := by
  have inX7 : ∀ w ∈ u_ws RX7 TX7 2, w ∈ wsX7_isIdempotent := by decide +kernel
  have hf15 := hts (.fieldLink RX7 15 "RackBench$Table" "n" "I") (by decide +kernel)
  have hl := lv_entry ([.ref h_t]) (n := 2) (Nat.le_of_ble_eq_true rfl)
  rw [lg_entry_eq]
  generalize (lg_sl ([.ref h_t]) ++ List.replicate (2 - (lg_sl ([.ref h_t])).length) Slot.unset).toArray = ls at hl ⊢
  have hl : lv_has ls 2 [(0, .ref h_t)] := hl
  generalize hH0 : s.heap = H at hP ⊢
  have hS : va_S A s.heap H [] := by rw [← hH0]; exact va_S.rf
  clear hH0
  generalize ([] : List Loc) = locs at hS ⊢
  refine lv_iconst (v := 0) hx hb dX7_isIdempotent_0 (by decide) ?_
  refine lv_istore_n (lv' := [(1, .int (0 : Int32)), (0, .ref h_t)]) hx hb dX7_isIdempotent_1 rfl hl (by decide) rfl (fun ls hl => ?_)
  obtain ⟨I2, m2, hI2, hB2⟩ := h
  have L2 : ∀  (I2 : Int32 → Prop) (m2 : Int32 → Nat), (∀ (x1 : Int32), I2 x1 → pX7_isIdempotent_2 t_n t_cells K x1 (fun x1' => I2 x1' ∧ m2 x1' < m2 x1)) → ∀ (n : Nat) (x1 : Int32) (H : Heap) (locs : List Loc) (ls : Array Slot), I2 x1 → m2 x1 < n → va_P G vwCl (w_X7_isIdempotent Y h_t B_t t_n t_cells) H → va_D A (w_X7_isIdempotent Y h_t B_t t_n t_cells) → va_S A s.heap H locs → lv_has ls 2 [(0, .ref h_t), (1, .int x1)] → W p l e R s m args below meth c H locs 0 0 Q (F0 m 2 ls []) := by
    intro  I2 m2 hB2 n
    induction n with
    | zero => intro x1 H locs ls _ hm; exact absurd hm (Nat.not_lt_zero _)
    | succ n ih =>
      intro x1 H locs ls hI hm hP hD hS hl
      obtain ⟨R2, h, rec2⟩ : ∃ R2 : Int32 → Prop, pX7_isIdempotent_2 t_n t_cells K x1 R2 ∧ ∀ (x1 : Int32) (H : Heap) (locs : List Loc) (ls : Array Slot), R2 x1 → va_P G vwCl (w_X7_isIdempotent Y h_t B_t t_n t_cells) H → va_D A (w_X7_isIdempotent Y h_t B_t t_n t_cells) → va_S A s.heap H locs → lv_has ls 2 [(0, .ref h_t), (1, .int x1)] → W p l e R s m args below meth c H locs 0 0 Q (F0 m 2 ls []) := ⟨_, hB2 x1 hI, fun x1 H locs ls hh hP hD hS hl => ih x1 H locs ls hh.1 (Nat.lt_of_lt_of_le hh.2 (Nat.le_of_lt_succ hm)) hP hD hS hl⟩
      refine lv_iload_n hx hb dX7_isIdempotent_2 rfl (lv_at hl 1 rfl) ?_
      refine lv_aload_n hx hb dX7_isIdempotent_3 rfl (lv_at hl 0 rfl) ?_
      refine va_get (D := G) (ci := 6) (v := .int t_n) (C := RX7) (T := TX7) (N := 2) hx hb hts inX7 hown hK hP 0 rfl rfl 1 (by decide) hf15 (fun _ h9 => h9) rfl dX7_isIdempotent_4 ?_
      obtain ⟨ht, hf⟩ := h
      refine lv_icmp_ge (tgt := 28) hx hb dX7_isIdempotent_7 (by decide) (fun c9 => ?_) (fun c9 => ?_)
      · have h := ht c9
        refine lv_iconst (v := 1) hx hb dX7_isIdempotent_28 (by decide) ?_
        obtain ⟨hz, h⟩ := h
        exact hret (1 : Int32)  H locs ls _ hP hD hS hz h dX7_isIdempotent_29
      · have h := hf c9
        refine lv_aload_n hx hb dX7_isIdempotent_10 rfl (lv_at hl 0 rfl) ?_
        refine lv_iload_n hx hb dX7_isIdempotent_11 rfl (lv_at hl 1 rfl) ?_
        refine lv_iload_n hx hb dX7_isIdempotent_12 rfl (lv_at hl 1 rfl) ?_
        refine mc_iV ⟨hx, hb, hml, hown, hts⟩ hK hE hA hP hD hS (c_X7_turned l G Y tF H.size h_t B_t t_n t_cells x1 x1 h) (cwV 2 hts gX7_isIdempotent_X7_turned rfl rfl rfl (by decide +kernel) ⟨Nat.le_trans (by decide) hRf, Nat.le_trans (by decide) hRl⟩) (fun u => (w_X7_isIdempotent Y h_t B_t t_n t_cells)) [0, 1] [] [0, 1] rfl rfl rfl rfl (by decide) (fun _ => rfl) rfl 0 6 rfl rfl rfl rfl hl.1 rfl (Nat.le_of_ble_eq_true rfl) dX7_isIdempotent_13 (fun r13 u H locs h hP hD hS => ?_)
        try dsimp only at h
        have hP : va_P G vwCl (w_X7_isIdempotent Y h_t B_t t_n t_cells) H := hP
        have hD : va_D A (w_X7_isIdempotent Y h_t B_t t_n t_cells) := hD
        refine lv_iload_n hx hb dX7_isIdempotent_16 rfl (lv_at hl 1 rfl) ?_
        obtain ⟨ht, hf⟩ := h
        refine lv_icmp_eq (tgt := 22) hx hb dX7_isIdempotent_17 (by decide) (fun c9 => ?_) (fun c9 => ?_)
        · have h := ht c9
          refine lv_iinc (v := (x1 + 1)) (lv' := [(1, .int (x1 + 1)), (0, .ref h_t)]) hx hb dX7_isIdempotent_22 hl (k := 1) rfl rfl (by decide) rfl (fun ls hl => ?_)
          refine lv_goto (tgt := 2) hx hb dX7_isIdempotent_25 (by decide) ?_
          exact rec2 (x1 + 1) H locs ls h hP hD hS (lv_sub hl [1, 0] rfl)
        · have h := hf c9
          refine lv_iconst (v := 0) hx hb dX7_isIdempotent_20 (by decide) ?_
          obtain ⟨hz, h⟩ := h
          exact hret (0 : Int32)  H locs ls _ hP hD hS hz h dX7_isIdempotent_21
  exact L2  I2 m2 hB2 _ (0 : Int32) H locs ls hI2 (Nat.lt_succ_self _) hP hD hS (lv_sub hl [1, 0] rfl)

set_option maxHeartbeats 4000000 in
set_option maxRecDepth 100000 in
theorem c_X7_isIdempotent (l : Launch) (G : va_G) (Y : Nat → ClassId) (tF sz : Nat) (h_t : Nat) (B_t : Nat → Nat) (t_n : Int32) (t_cells : Nat → Int32) {K : Int32 → Prop} (h : pX7_isIdempotent t_n t_cells K) : Met l yX7_isIdempotent wsX7_isIdempotent ({ frames := 1, cells := 0, slots := 0, locals := 22 }) (PcM G Y tF sz (w_X7_isIdempotent Y h_t B_t t_n t_cells) [.ref h_t]) (va_Qi (fun (r : Int32) (u : Unit) => K r ) (fun u t => BM G Y (va_A (w_X7_isIdempotent Y h_t B_t t_n t_cells) sz) (w_X7_isIdempotent Y h_t B_t t_n t_cells) t) (va_A (w_X7_isIdempotent Y h_t B_t t_n t_cells) sz)) 0 0 (va_A (w_X7_isIdempotent Y h_t B_t t_n t_cells) sz) := by
  refine Met.ofW (cc := cX7_isIdempotent) (maxL := 2) (ret := (some .boolean)) (by decide +kernel) rfl ?_
  intro p e s m args below meth c s₁ B hml hv
  obtain ⟨rfl, hsz, hP, hK, hD0, hE⟩ := hv
  have hts := atoms_spec (ws := wsX7_isIdempotent) B.pre
  have hown : s.vm.findClass RX7 = some m.cls := findClass_of_methodNamed B.named
  have hlocks := B.notSynchronized
  subst hsz
  have hD := hD0.self (sz := s.heap.size)
  exact wk_X7_isIdempotent h_t B_t t_n t_cells B.exec B.bytes hml hown hts hK hE (fun q h => Or.inr h) (Nat.le_refl _) (Nat.le_refl _) (fun r  H locs ls pc hP hD hS hz hk hd => W.zret (v := r) B.exec B.bytes B.returns hz.n (fun t ht hW => ⟨⟨r, (), rfl, hk, by rw [ht]; exact hP, va_K.moved hW.alike hK, hD⟩, hS.F ht⟩) hS.2.2 hd) hP hD h

abbrev w_X7_isInvolutory (Y : Nat → ClassId) (h_t : Nat) (B_t : Nat → Nat) (t_n : Int32) (t_cells : Nat → Int32) : va_W := [(h_t, .inr (6, [.ref (B_t 0), .int t_n])), ((B_t 0), .inl (Y 0, 64, .inl t_cells))]

set_option maxHeartbeats 4000000 in
set_option maxRecDepth 100000 in
theorem wk_X7_isInvolutory {p : Program} {l : Launch} {e : Env} {R : Room} {s : State} {m : MethodId} {args : Array Value} {below : List Frame} {meth : Method} {c : Code} {Q : State → Prop} {G : va_G} {Y : Nat → ClassId} {tF : Nat} {A : Nat → Prop} (h_t : Nat) (B_t : Nat → Nat) (t_n : Int32) (t_cells : Nat → Int32) {K : Int32 → Prop} (hx : p.tables.exec = Jvm.exec) (hb : c.code = cX7_isInvolutory) (hml : c.maxLocals = 3) (hown : s.vm.findClass RX7 = some m.cls) (hts : ∀ w ∈ wsX7_isInvolutory, w.before args s = true) (hK : va_K G vwCl (tyL Y) s) (hE : Ev A tF s) (hA : ∀ q, s.heap.size ≤ q → A q) (hRf : 1 ≤ R.frames) (hRl : 22 ≤ R.locals) (hret : ∀ (r : Int32)  (H : Heap) (locs : List Loc) (ls : Array Slot) (pc : Nat), va_P G vwCl (w_X7_isInvolutory Y h_t B_t t_n t_cells) H → va_D A (w_X7_isInvolutory Y h_t B_t t_n t_cells) → va_S A s.heap H locs → zb r → K r → decode cX7_isInvolutory pc = .ok (.ireturn, 1) → W p l e R s m args below meth c H locs 0 0 Q (F0 m pc ls [.int r])) (hP : va_P G vwCl (w_X7_isInvolutory Y h_t B_t t_n t_cells) s.heap) (hD : va_D A (w_X7_isInvolutory Y h_t B_t t_n t_cells)) (h : pX7_isInvolutory t_n t_cells K) : W p l e R s m args below meth c s.heap [] 0 0 Q (entryFrame m ([.ref h_t] : List Value).toArray 3) := by
  have inX7 : ∀ w ∈ u_ws RX7 TX7 2, w ∈ wsX7_isInvolutory := by decide +kernel
  have hf15 := hts (.fieldLink RX7 15 "RackBench$Table" "n" "I") (by decide +kernel)
  have hl := lv_entry ([.ref h_t]) (n := 3) (Nat.le_of_ble_eq_true rfl)
  rw [lg_entry_eq]
  generalize (lg_sl ([.ref h_t]) ++ List.replicate (3 - (lg_sl ([.ref h_t])).length) Slot.unset).toArray = ls at hl ⊢
  have hl : lv_has ls 3 [(0, .ref h_t)] := hl
  generalize hH0 : s.heap = H at hP ⊢
  have hS : va_S A s.heap H [] := by rw [← hH0]; exact va_S.rf
  clear hH0
  generalize ([] : List Loc) = locs at hS ⊢
  refine lv_iconst (v := 0) hx hb dX7_isInvolutory_0 (by decide) ?_
  refine lv_istore_n (lv' := [(1, .int (0 : Int32)), (0, .ref h_t)]) hx hb dX7_isInvolutory_1 rfl hl (by decide) rfl (fun ls hl => ?_)
  obtain ⟨I2, m2, hI2, hB2⟩ := h
  have L2 : ∀  (I2 : Int32 → Prop) (m2 : Int32 → Nat), (∀ (x1 : Int32), I2 x1 → pX7_isInvolutory_2 t_n t_cells K x1 (fun x1' => I2 x1' ∧ m2 x1' < m2 x1)) → ∀ (n : Nat) (x1 : Int32) (H : Heap) (locs : List Loc) (ls : Array Slot), I2 x1 → m2 x1 < n → va_P G vwCl (w_X7_isInvolutory Y h_t B_t t_n t_cells) H → va_D A (w_X7_isInvolutory Y h_t B_t t_n t_cells) → va_S A s.heap H locs → lv_has ls 3 [(0, .ref h_t), (1, .int x1)] → W p l e R s m args below meth c H locs 0 0 Q (F0 m 2 ls []) := by
    intro  I2 m2 hB2 n
    induction n with
    | zero => intro x1 H locs ls _ hm; exact absurd hm (Nat.not_lt_zero _)
    | succ n ih =>
      intro x1 H locs ls hI hm hP hD hS hl
      obtain ⟨R2, h, rec2⟩ : ∃ R2 : Int32 → Prop, pX7_isInvolutory_2 t_n t_cells K x1 R2 ∧ ∀ (x1 : Int32) (H : Heap) (locs : List Loc) (ls : Array Slot), R2 x1 → va_P G vwCl (w_X7_isInvolutory Y h_t B_t t_n t_cells) H → va_D A (w_X7_isInvolutory Y h_t B_t t_n t_cells) → va_S A s.heap H locs → lv_has ls 3 [(0, .ref h_t), (1, .int x1)] → W p l e R s m args below meth c H locs 0 0 Q (F0 m 2 ls []) := ⟨_, hB2 x1 hI, fun x1 H locs ls hh hP hD hS hl => ih x1 H locs ls hh.1 (Nat.lt_of_lt_of_le hh.2 (Nat.le_of_lt_succ hm)) hP hD hS hl⟩
      refine lv_iload_n hx hb dX7_isInvolutory_2 rfl (lv_at hl 1 rfl) ?_
      refine lv_aload_n hx hb dX7_isInvolutory_3 rfl (lv_at hl 0 rfl) ?_
      refine va_get (D := G) (ci := 6) (v := .int t_n) (C := RX7) (T := TX7) (N := 2) hx hb hts inX7 hown hK hP 0 rfl rfl 1 (by decide) hf15 (fun _ h9 => h9) rfl dX7_isInvolutory_4 ?_
      obtain ⟨ht, hf⟩ := h
      refine lv_icmp_ge (tgt := 49) hx hb dX7_isInvolutory_7 (by decide) (fun c9 => ?_) (fun c9 => ?_)
      · have h := ht c9
        refine lv_iconst (v := 1) hx hb dX7_isInvolutory_49 (by decide) ?_
        obtain ⟨hz, h⟩ := h
        exact hret (1 : Int32)  H locs ls _ hP hD hS hz h dX7_isInvolutory_50
      · have h := hf c9
        refine lv_iconst (v := 0) hx hb dX7_isInvolutory_10 (by decide) ?_
        refine lv_istore_n (lv' := [(2, .int (0 : Int32)), (0, .ref h_t), (1, .int x1)]) hx hb dX7_isInvolutory_11 rfl hl (by decide) rfl (fun ls hl => ?_)
        obtain ⟨I12, m12, hI12, hB12⟩ := h
        have L12 : ∀ (x1 : Int32) (I12 : Int32 → Prop) (m12 : Int32 → Nat), (∀ (x2 : Int32), I12 x2 → pX7_isInvolutory_12 t_n t_cells R2 K x1 x2 (fun x2' => I12 x2' ∧ m12 x2' < m12 x2)) → ∀ (n : Nat) (x2 : Int32) (H : Heap) (locs : List Loc) (ls : Array Slot), I12 x2 → m12 x2 < n → va_P G vwCl (w_X7_isInvolutory Y h_t B_t t_n t_cells) H → va_D A (w_X7_isInvolutory Y h_t B_t t_n t_cells) → va_S A s.heap H locs → lv_has ls 3 [(0, .ref h_t), (1, .int x1), (2, .int x2)] → W p l e R s m args below meth c H locs 0 0 Q (F0 m 12 ls []) := by
          intro x1 I12 m12 hB12 n
          induction n with
          | zero => intro x2 H locs ls _ hm; exact absurd hm (Nat.not_lt_zero _)
          | succ n ih =>
            intro x2 H locs ls hI hm hP hD hS hl
            obtain ⟨R12, h, rec12⟩ : ∃ R12 : Int32 → Prop, pX7_isInvolutory_12 t_n t_cells R2 K x1 x2 R12 ∧ ∀ (x2 : Int32) (H : Heap) (locs : List Loc) (ls : Array Slot), R12 x2 → va_P G vwCl (w_X7_isInvolutory Y h_t B_t t_n t_cells) H → va_D A (w_X7_isInvolutory Y h_t B_t t_n t_cells) → va_S A s.heap H locs → lv_has ls 3 [(0, .ref h_t), (1, .int x1), (2, .int x2)] → W p l e R s m args below meth c H locs 0 0 Q (F0 m 12 ls []) := ⟨_, hB12 x2 hI, fun x2 H locs ls hh hP hD hS hl => ih x2 H locs ls hh.1 (Nat.lt_of_lt_of_le hh.2 (Nat.le_of_lt_succ hm)) hP hD hS hl⟩
            refine lv_iload_n hx hb dX7_isInvolutory_12 rfl (lv_at hl 2 rfl) ?_
            refine lv_aload_n hx hb dX7_isInvolutory_13 rfl (lv_at hl 0 rfl) ?_
            refine va_get (D := G) (ci := 6) (v := .int t_n) (C := RX7) (T := TX7) (N := 2) hx hb hts inX7 hown hK hP 0 rfl rfl 1 (by decide) hf15 (fun _ h9 => h9) rfl dX7_isInvolutory_14 ?_
            obtain ⟨ht, hf⟩ := h
            refine lv_icmp_ge (tgt := 43) hx hb dX7_isInvolutory_17 (by decide) (fun c9 => ?_) (fun c9 => ?_)
            · have h := ht c9
              refine lv_iinc (v := (x1 + 1)) (lv' := [(1, .int (x1 + 1)), (0, .ref h_t), (2, .int x2)]) hx hb dX7_isInvolutory_43 hl (k := 1) rfl rfl (by decide) rfl (fun ls hl => ?_)
              refine lv_goto (tgt := 2) hx hb dX7_isInvolutory_46 (by decide) ?_
              exact rec2 (x1 + 1) H locs ls h hP hD hS (lv_sub hl [1, 0] rfl)
            · have h := hf c9
              refine lv_aload_n hx hb dX7_isInvolutory_20 rfl (lv_at hl 0 rfl) ?_
              refine lv_iload_n hx hb dX7_isInvolutory_21 rfl (lv_at hl 1 rfl) ?_
              refine lv_aload_n hx hb dX7_isInvolutory_22 rfl (lv_at hl 0 rfl) ?_
              refine lv_iload_n hx hb dX7_isInvolutory_23 rfl (lv_at hl 1 rfl) ?_
              refine lv_iload_n hx hb dX7_isInvolutory_24 rfl (lv_at hl 2 rfl) ?_
              refine mc_iV ⟨hx, hb, hml, hown, hts⟩ hK hE hA hP hD hS (c_X7_turned l G Y tF H.size h_t B_t t_n t_cells x1 x2 h) (cwV 2 hts gX7_isInvolutory_X7_turned rfl rfl rfl (by decide +kernel) ⟨Nat.le_trans (by decide) hRf, Nat.le_trans (by decide) hRl⟩) (fun u => (w_X7_isInvolutory Y h_t B_t t_n t_cells)) [0, 1] [] [0, 1] rfl rfl rfl rfl (by decide) (fun _ => rfl) rfl 0 6 rfl rfl rfl rfl hl.1 rfl (Nat.le_of_ble_eq_true rfl) dX7_isInvolutory_25 (fun r25 u H locs h hP hD hS => ?_)
              try dsimp only at h
              have hP : va_P G vwCl (w_X7_isInvolutory Y h_t B_t t_n t_cells) H := hP
              have hD : va_D A (w_X7_isInvolutory Y h_t B_t t_n t_cells) := hD
              refine mc_iV ⟨hx, hb, hml, hown, hts⟩ hK hE hA hP hD hS (c_X7_turned l G Y tF H.size h_t B_t t_n t_cells x1 r25 h) (cwV 2 hts gX7_isInvolutory_X7_turned rfl rfl rfl (by decide +kernel) ⟨Nat.le_trans (by decide) hRf, Nat.le_trans (by decide) hRl⟩) (fun u => (w_X7_isInvolutory Y h_t B_t t_n t_cells)) [0, 1] [] [0, 1] rfl rfl rfl rfl (by decide) (fun _ => rfl) rfl 0 6 rfl rfl rfl rfl hl.1 rfl (Nat.le_of_ble_eq_true rfl) dX7_isInvolutory_28 (fun r28 u H locs h hP hD hS => ?_)
              try dsimp only at h
              have hP : va_P G vwCl (w_X7_isInvolutory Y h_t B_t t_n t_cells) H := hP
              have hD : va_D A (w_X7_isInvolutory Y h_t B_t t_n t_cells) := hD
              refine lv_iload_n hx hb dX7_isInvolutory_31 rfl (lv_at hl 2 rfl) ?_
              obtain ⟨ht, hf⟩ := h
              refine lv_icmp_eq (tgt := 37) hx hb dX7_isInvolutory_32 (by decide) (fun c9 => ?_) (fun c9 => ?_)
              · have h := ht c9
                refine lv_iinc (v := (x2 + 1)) (lv' := [(2, .int (x2 + 1)), (0, .ref h_t), (1, .int x1)]) hx hb dX7_isInvolutory_37 hl (k := 2) rfl rfl (by decide) rfl (fun ls hl => ?_)
                refine lv_goto (tgt := 12) hx hb dX7_isInvolutory_40 (by decide) ?_
                exact rec12 (x2 + 1) H locs ls h hP hD hS (lv_sub hl [1, 2, 0] rfl)
              · have h := hf c9
                refine lv_iconst (v := 0) hx hb dX7_isInvolutory_35 (by decide) ?_
                obtain ⟨hz, h⟩ := h
                exact hret (0 : Int32)  H locs ls _ hP hD hS hz h dX7_isInvolutory_36
        exact L12 x1 I12 m12 hB12 _ (0 : Int32) H locs ls hI12 (Nat.lt_succ_self _) hP hD hS (lv_sub hl [1, 2, 0] rfl)
  exact L2  I2 m2 hB2 _ (0 : Int32) H locs ls hI2 (Nat.lt_succ_self _) hP hD hS (lv_sub hl [1, 0] rfl)

set_option maxHeartbeats 4000000 in
set_option maxRecDepth 100000 in
theorem c_X7_isInvolutory (l : Launch) (G : va_G) (Y : Nat → ClassId) (tF sz : Nat) (h_t : Nat) (B_t : Nat → Nat) (t_n : Int32) (t_cells : Nat → Int32) {K : Int32 → Prop} (h : pX7_isInvolutory t_n t_cells K) : Met l yX7_isInvolutory wsX7_isInvolutory ({ frames := 1, cells := 0, slots := 0, locals := 22 }) (PcM G Y tF sz (w_X7_isInvolutory Y h_t B_t t_n t_cells) [.ref h_t]) (va_Qi (fun (r : Int32) (u : Unit) => K r ) (fun u t => BM G Y (va_A (w_X7_isInvolutory Y h_t B_t t_n t_cells) sz) (w_X7_isInvolutory Y h_t B_t t_n t_cells) t) (va_A (w_X7_isInvolutory Y h_t B_t t_n t_cells) sz)) 0 0 (va_A (w_X7_isInvolutory Y h_t B_t t_n t_cells) sz) := by
  refine Met.ofW (cc := cX7_isInvolutory) (maxL := 3) (ret := (some .boolean)) (by decide +kernel) rfl ?_
  intro p e s m args below meth c s₁ B hml hv
  obtain ⟨rfl, hsz, hP, hK, hD0, hE⟩ := hv
  have hts := atoms_spec (ws := wsX7_isInvolutory) B.pre
  have hown : s.vm.findClass RX7 = some m.cls := findClass_of_methodNamed B.named
  have hlocks := B.notSynchronized
  subst hsz
  have hD := hD0.self (sz := s.heap.size)
  exact wk_X7_isInvolutory h_t B_t t_n t_cells B.exec B.bytes hml hown hts hK hE (fun q h => Or.inr h) (Nat.le_refl _) (Nat.le_refl _) (fun r  H locs ls pc hP hD hS hz hk hd => W.zret (v := r) B.exec B.bytes B.returns hz.n (fun t ht hW => ⟨⟨r, (), rfl, hk, by rw [ht]; exact hP, va_K.moved hW.alike hK, hD⟩, hS.F ht⟩) hS.2.2 hd) hP hD h

abbrev w_X7_rowsAreAlike (Y : Nat → ClassId) (h_t : Nat) (B_t : Nat → Nat) (t_n : Int32) (t_cells : Nat → Int32) : va_W := [(h_t, .inr (6, [.ref (B_t 0), .int t_n])), ((B_t 0), .inl (Y 0, 64, .inl t_cells))]

set_option maxHeartbeats 4000000 in
set_option maxRecDepth 100000 in
theorem wk_X7_rowsAreAlike {p : Program} {l : Launch} {e : Env} {R : Room} {s : State} {m : MethodId} {args : Array Value} {below : List Frame} {meth : Method} {c : Code} {Q : State → Prop} {G : va_G} {Y : Nat → ClassId} {tF : Nat} {A : Nat → Prop} (h_t : Nat) (B_t : Nat → Nat) (t_n : Int32) (t_cells : Nat → Int32) (x1 : Int32) (x2 : Int32) {K : Int32 → Prop} (hx : p.tables.exec = Jvm.exec) (hb : c.code = cX7_rowsAreAlike) (hml : c.maxLocals = 4) (hown : s.vm.findClass RX7 = some m.cls) (hts : ∀ w ∈ wsX7_rowsAreAlike, w.before args s = true) (hK : va_K G vwCl (tyL Y) s) (hE : Ev A tF s) (hA : ∀ q, s.heap.size ≤ q → A q) (hRf : 1 ≤ R.frames) (hRl : 22 ≤ R.locals) (hret : ∀ (r : Int32)  (H : Heap) (locs : List Loc) (ls : Array Slot) (pc : Nat), va_P G vwCl (w_X7_rowsAreAlike Y h_t B_t t_n t_cells) H → va_D A (w_X7_rowsAreAlike Y h_t B_t t_n t_cells) → va_S A s.heap H locs → zb r → K r → decode cX7_rowsAreAlike pc = .ok (.ireturn, 1) → W p l e R s m args below meth c H locs 0 0 Q (F0 m pc ls [.int r])) (hP : va_P G vwCl (w_X7_rowsAreAlike Y h_t B_t t_n t_cells) s.heap) (hD : va_D A (w_X7_rowsAreAlike Y h_t B_t t_n t_cells)) (h : pX7_rowsAreAlike t_n t_cells x1 x2 K) : W p l e R s m args below meth c s.heap [] 0 0 Q (entryFrame m ([.ref h_t, .int x1, .int x2] : List Value).toArray 4) := by
  have inX7 : ∀ w ∈ u_ws RX7 TX7 2, w ∈ wsX7_rowsAreAlike := by decide +kernel
  have hf15 := hts (.fieldLink RX7 15 "RackBench$Table" "n" "I") (by decide +kernel)
  have hl := lv_entry ([.ref h_t, .int x1, .int x2]) (n := 4) (Nat.le_of_ble_eq_true rfl)
  rw [lg_entry_eq]
  generalize (lg_sl ([.ref h_t, .int x1, .int x2]) ++ List.replicate (4 - (lg_sl ([.ref h_t, .int x1, .int x2])).length) Slot.unset).toArray = ls at hl ⊢
  have hl : lv_has ls 4 [(0, .ref h_t), (1, .int x1), (2, .int x2)] := hl
  generalize hH0 : s.heap = H at hP ⊢
  have hS : va_S A s.heap H [] := by rw [← hH0]; exact va_S.rf
  clear hH0
  generalize ([] : List Loc) = locs at hS ⊢
  refine lv_iconst (v := 0) hx hb dX7_rowsAreAlike_0 (by decide) ?_
  refine lv_istore_n (lv' := [(3, .int (0 : Int32)), (0, .ref h_t), (1, .int x1), (2, .int x2)]) hx hb dX7_rowsAreAlike_1 rfl hl (by decide) rfl (fun ls hl => ?_)
  obtain ⟨I2, m2, hI2, hB2⟩ := h
  have L2 : ∀ (x1 : Int32) (x2 : Int32) (I2 : Int32 → Prop) (m2 : Int32 → Nat), (∀ (x3 : Int32), I2 x3 → pX7_rowsAreAlike_2 t_n t_cells K x1 x2 x3 (fun x3' => I2 x3' ∧ m2 x3' < m2 x3)) → ∀ (n : Nat) (x3 : Int32) (H : Heap) (locs : List Loc) (ls : Array Slot), I2 x3 → m2 x3 < n → va_P G vwCl (w_X7_rowsAreAlike Y h_t B_t t_n t_cells) H → va_D A (w_X7_rowsAreAlike Y h_t B_t t_n t_cells) → va_S A s.heap H locs → lv_has ls 4 [(0, .ref h_t), (1, .int x1), (2, .int x2), (3, .int x3)] → W p l e R s m args below meth c H locs 0 0 Q (F0 m 2 ls []) := by
    intro x1 x2 I2 m2 hB2 n
    induction n with
    | zero => intro x3 H locs ls _ hm; exact absurd hm (Nat.not_lt_zero _)
    | succ n ih =>
      intro x3 H locs ls hI hm hP hD hS hl
      obtain ⟨R2, h, rec2⟩ : ∃ R2 : Int32 → Prop, pX7_rowsAreAlike_2 t_n t_cells K x1 x2 x3 R2 ∧ ∀ (x3 : Int32) (H : Heap) (locs : List Loc) (ls : Array Slot), R2 x3 → va_P G vwCl (w_X7_rowsAreAlike Y h_t B_t t_n t_cells) H → va_D A (w_X7_rowsAreAlike Y h_t B_t t_n t_cells) → va_S A s.heap H locs → lv_has ls 4 [(0, .ref h_t), (1, .int x1), (2, .int x2), (3, .int x3)] → W p l e R s m args below meth c H locs 0 0 Q (F0 m 2 ls []) := ⟨_, hB2 x3 hI, fun x3 H locs ls hh hP hD hS hl => ih x3 H locs ls hh.1 (Nat.lt_of_lt_of_le hh.2 (Nat.le_of_lt_succ hm)) hP hD hS hl⟩
      refine lv_iload_n hx hb dX7_rowsAreAlike_2 rfl (lv_at hl 3 rfl) ?_
      refine lv_aload_n hx hb dX7_rowsAreAlike_3 rfl (lv_at hl 0 rfl) ?_
      refine va_get (D := G) (ci := 6) (v := .int t_n) (C := RX7) (T := TX7) (N := 2) hx hb hts inX7 hown hK hP 0 rfl rfl 1 (by decide) hf15 (fun _ h9 => h9) rfl dX7_rowsAreAlike_4 ?_
      obtain ⟨ht, hf⟩ := h
      refine lv_icmp_ge (tgt := 33) hx hb dX7_rowsAreAlike_7 (by decide) (fun c9 => ?_) (fun c9 => ?_)
      · have h := ht c9
        refine lv_iconst (v := 1) hx hb dX7_rowsAreAlike_33 (by decide) ?_
        obtain ⟨hz, h⟩ := h
        exact hret (1 : Int32)  H locs ls _ hP hD hS hz h dX7_rowsAreAlike_34
      · have h := hf c9
        refine lv_aload_n hx hb dX7_rowsAreAlike_10 rfl (lv_at hl 0 rfl) ?_
        refine lv_iload_n hx hb dX7_rowsAreAlike_11 rfl (lv_at hl 1 rfl) ?_
        refine lv_iload_n hx hb dX7_rowsAreAlike_12 rfl (lv_at hl 3 rfl) ?_
        refine mc_iV ⟨hx, hb, hml, hown, hts⟩ hK hE hA hP hD hS (c_X7_turned l G Y tF H.size h_t B_t t_n t_cells x1 x3 h) (cwV 2 hts gX7_rowsAreAlike_X7_turned rfl rfl rfl (by decide +kernel) ⟨Nat.le_trans (by decide) hRf, Nat.le_trans (by decide) hRl⟩) (fun u => (w_X7_rowsAreAlike Y h_t B_t t_n t_cells)) [0, 1] [] [0, 1] rfl rfl rfl rfl (by decide) (fun _ => rfl) rfl 0 6 rfl rfl rfl rfl hl.1 rfl (Nat.le_of_ble_eq_true rfl) dX7_rowsAreAlike_13 (fun r13 u H locs h hP hD hS => ?_)
        try dsimp only at h
        have hP : va_P G vwCl (w_X7_rowsAreAlike Y h_t B_t t_n t_cells) H := hP
        have hD : va_D A (w_X7_rowsAreAlike Y h_t B_t t_n t_cells) := hD
        refine lv_aload_n hx hb dX7_rowsAreAlike_16 rfl (lv_at hl 0 rfl) ?_
        refine lv_iload_n hx hb dX7_rowsAreAlike_17 rfl (lv_at hl 2 rfl) ?_
        refine lv_iload_n hx hb dX7_rowsAreAlike_18 rfl (lv_at hl 3 rfl) ?_
        refine mc_iV ⟨hx, hb, hml, hown, hts⟩ hK hE hA hP hD hS (c_X7_turned l G Y tF H.size h_t B_t t_n t_cells x2 x3 h) (cwV 2 hts gX7_rowsAreAlike_X7_turned rfl rfl rfl (by decide +kernel) ⟨Nat.le_trans (by decide) hRf, Nat.le_trans (by decide) hRl⟩) (fun u => (w_X7_rowsAreAlike Y h_t B_t t_n t_cells)) [0, 1] [] [0, 1] rfl rfl rfl rfl (by decide) (fun _ => rfl) rfl 0 6 rfl rfl rfl rfl hl.1 rfl (Nat.le_of_ble_eq_true rfl) dX7_rowsAreAlike_19 (fun r19 u H locs h hP hD hS => ?_)
        try dsimp only at h
        have hP : va_P G vwCl (w_X7_rowsAreAlike Y h_t B_t t_n t_cells) H := hP
        have hD : va_D A (w_X7_rowsAreAlike Y h_t B_t t_n t_cells) := hD
        obtain ⟨ht, hf⟩ := h
        refine lv_icmp_eq (tgt := 27) hx hb dX7_rowsAreAlike_22 (by decide) (fun c9 => ?_) (fun c9 => ?_)
        · have h := ht c9
          refine lv_iinc (v := (x3 + 1)) (lv' := [(3, .int (x3 + 1)), (0, .ref h_t), (1, .int x1), (2, .int x2)]) hx hb dX7_rowsAreAlike_27 hl (k := 3) rfl rfl (by decide) rfl (fun ls hl => ?_)
          refine lv_goto (tgt := 2) hx hb dX7_rowsAreAlike_30 (by decide) ?_
          exact rec2 (x3 + 1) H locs ls h hP hD hS (lv_sub hl [1, 2, 3, 0] rfl)
        · have h := hf c9
          refine lv_iconst (v := 0) hx hb dX7_rowsAreAlike_25 (by decide) ?_
          obtain ⟨hz, h⟩ := h
          exact hret (0 : Int32)  H locs ls _ hP hD hS hz h dX7_rowsAreAlike_26
  exact L2 x1 x2 I2 m2 hB2 _ (0 : Int32) H locs ls hI2 (Nat.lt_succ_self _) hP hD hS (lv_sub hl [1, 2, 3, 0] rfl)

set_option maxHeartbeats 4000000 in
set_option maxRecDepth 100000 in
theorem c_X7_rowsAreAlike (l : Launch) (G : va_G) (Y : Nat → ClassId) (tF sz : Nat) (h_t : Nat) (B_t : Nat → Nat) (t_n : Int32) (t_cells : Nat → Int32) (x1 : Int32) (x2 : Int32) {K : Int32 → Prop} (h : pX7_rowsAreAlike t_n t_cells x1 x2 K) : Met l yX7_rowsAreAlike wsX7_rowsAreAlike ({ frames := 1, cells := 0, slots := 0, locals := 22 }) (PcM G Y tF sz (w_X7_rowsAreAlike Y h_t B_t t_n t_cells) [.ref h_t, .int x1, .int x2]) (va_Qi (fun (r : Int32) (u : Unit) => K r ) (fun u t => BM G Y (va_A (w_X7_rowsAreAlike Y h_t B_t t_n t_cells) sz) (w_X7_rowsAreAlike Y h_t B_t t_n t_cells) t) (va_A (w_X7_rowsAreAlike Y h_t B_t t_n t_cells) sz)) 0 0 (va_A (w_X7_rowsAreAlike Y h_t B_t t_n t_cells) sz) := by
  refine Met.ofW (cc := cX7_rowsAreAlike) (maxL := 4) (ret := (some .boolean)) (by decide +kernel) rfl ?_
  intro p e s m args below meth c s₁ B hml hv
  obtain ⟨rfl, hsz, hP, hK, hD0, hE⟩ := hv
  have hts := atoms_spec (ws := wsX7_rowsAreAlike) B.pre
  have hown : s.vm.findClass RX7 = some m.cls := findClass_of_methodNamed B.named
  have hlocks := B.notSynchronized
  subst hsz
  have hD := hD0.self (sz := s.heap.size)
  exact wk_X7_rowsAreAlike h_t B_t t_n t_cells x1 x2 B.exec B.bytes hml hown hts hK hE (fun q h => Or.inr h) (Nat.le_refl _) (Nat.le_refl _) (fun r  H locs ls pc hP hD hS hz hk hd => W.zret (v := r) B.exec B.bytes B.returns hz.n (fun t ht hW => ⟨⟨r, (), rfl, hk, by rw [ht]; exact hP, va_K.moved hW.alike hK, hD⟩, hS.F ht⟩) hS.2.2 hd) hP hD h

abbrev w_X7_rowsDiffer (Y : Nat → ClassId) (h_t : Nat) (B_t : Nat → Nat) (t_n : Int32) (t_cells : Nat → Int32) : va_W := [(h_t, .inr (6, [.ref (B_t 0), .int t_n])), ((B_t 0), .inl (Y 0, 64, .inl t_cells))]

set_option maxHeartbeats 4000000 in
set_option maxRecDepth 100000 in
theorem wk_X7_rowsDiffer {p : Program} {l : Launch} {e : Env} {R : Room} {s : State} {m : MethodId} {args : Array Value} {below : List Frame} {meth : Method} {c : Code} {Q : State → Prop} {G : va_G} {Y : Nat → ClassId} {tF : Nat} {A : Nat → Prop} (h_t : Nat) (B_t : Nat → Nat) (t_n : Int32) (t_cells : Nat → Int32) {K : Int32 → Prop} (hx : p.tables.exec = Jvm.exec) (hb : c.code = cX7_rowsDiffer) (hml : c.maxLocals = 3) (hown : s.vm.findClass RX7 = some m.cls) (hts : ∀ w ∈ wsX7_rowsDiffer, w.before args s = true) (hK : va_K G vwCl (tyL Y) s) (hE : Ev A tF s) (hA : ∀ q, s.heap.size ≤ q → A q) (hRf : 2 ≤ R.frames) (hRl : 45 ≤ R.locals) (hret : ∀ (r : Int32)  (H : Heap) (locs : List Loc) (ls : Array Slot) (pc : Nat), va_P G vwCl (w_X7_rowsDiffer Y h_t B_t t_n t_cells) H → va_D A (w_X7_rowsDiffer Y h_t B_t t_n t_cells) → va_S A s.heap H locs → zb r → K r → decode cX7_rowsDiffer pc = .ok (.ireturn, 1) → W p l e R s m args below meth c H locs 0 0 Q (F0 m pc ls [.int r])) (hP : va_P G vwCl (w_X7_rowsDiffer Y h_t B_t t_n t_cells) s.heap) (hD : va_D A (w_X7_rowsDiffer Y h_t B_t t_n t_cells)) (h : pX7_rowsDiffer t_n t_cells K) : W p l e R s m args below meth c s.heap [] 0 0 Q (entryFrame m ([.ref h_t] : List Value).toArray 3) := by
  have inX7 : ∀ w ∈ u_ws RX7 TX7 2, w ∈ wsX7_rowsDiffer := by decide +kernel
  have hf15 := hts (.fieldLink RX7 15 "RackBench$Table" "n" "I") (by decide +kernel)
  have hl := lv_entry ([.ref h_t]) (n := 3) (Nat.le_of_ble_eq_true rfl)
  rw [lg_entry_eq]
  generalize (lg_sl ([.ref h_t]) ++ List.replicate (3 - (lg_sl ([.ref h_t])).length) Slot.unset).toArray = ls at hl ⊢
  have hl : lv_has ls 3 [(0, .ref h_t)] := hl
  generalize hH0 : s.heap = H at hP ⊢
  have hS : va_S A s.heap H [] := by rw [← hH0]; exact va_S.rf
  clear hH0
  generalize ([] : List Loc) = locs at hS ⊢
  refine lv_iconst (v := 0) hx hb dX7_rowsDiffer_0 (by decide) ?_
  refine lv_istore_n (lv' := [(1, .int (0 : Int32)), (0, .ref h_t)]) hx hb dX7_rowsDiffer_1 rfl hl (by decide) rfl (fun ls hl => ?_)
  obtain ⟨I2, m2, hI2, hB2⟩ := h
  have L2 : ∀  (I2 : Int32 → Prop) (m2 : Int32 → Nat), (∀ (x1 : Int32), I2 x1 → pX7_rowsDiffer_2 t_n t_cells K x1 (fun x1' => I2 x1' ∧ m2 x1' < m2 x1)) → ∀ (n : Nat) (x1 : Int32) (H : Heap) (locs : List Loc) (ls : Array Slot), I2 x1 → m2 x1 < n → va_P G vwCl (w_X7_rowsDiffer Y h_t B_t t_n t_cells) H → va_D A (w_X7_rowsDiffer Y h_t B_t t_n t_cells) → va_S A s.heap H locs → lv_has ls 3 [(0, .ref h_t), (1, .int x1)] → W p l e R s m args below meth c H locs 0 0 Q (F0 m 2 ls []) := by
    intro  I2 m2 hB2 n
    induction n with
    | zero => intro x1 H locs ls _ hm; exact absurd hm (Nat.not_lt_zero _)
    | succ n ih =>
      intro x1 H locs ls hI hm hP hD hS hl
      obtain ⟨R2, h, rec2⟩ : ∃ R2 : Int32 → Prop, pX7_rowsDiffer_2 t_n t_cells K x1 R2 ∧ ∀ (x1 : Int32) (H : Heap) (locs : List Loc) (ls : Array Slot), R2 x1 → va_P G vwCl (w_X7_rowsDiffer Y h_t B_t t_n t_cells) H → va_D A (w_X7_rowsDiffer Y h_t B_t t_n t_cells) → va_S A s.heap H locs → lv_has ls 3 [(0, .ref h_t), (1, .int x1)] → W p l e R s m args below meth c H locs 0 0 Q (F0 m 2 ls []) := ⟨_, hB2 x1 hI, fun x1 H locs ls hh hP hD hS hl => ih x1 H locs ls hh.1 (Nat.lt_of_lt_of_le hh.2 (Nat.le_of_lt_succ hm)) hP hD hS hl⟩
      refine lv_iload_n hx hb dX7_rowsDiffer_2 rfl (lv_at hl 1 rfl) ?_
      refine lv_aload_n hx hb dX7_rowsDiffer_3 rfl (lv_at hl 0 rfl) ?_
      refine va_get (D := G) (ci := 6) (v := .int t_n) (C := RX7) (T := TX7) (N := 2) hx hb hts inX7 hown hK hP 0 rfl rfl 1 (by decide) hf15 (fun _ h9 => h9) rfl dX7_rowsDiffer_4 ?_
      obtain ⟨ht, hf⟩ := h
      refine lv_icmp_ge (tgt := 45) hx hb dX7_rowsDiffer_7 (by decide) (fun c9 => ?_) (fun c9 => ?_)
      · have h := ht c9
        refine lv_iconst (v := 1) hx hb dX7_rowsDiffer_45 (by decide) ?_
        obtain ⟨hz, h⟩ := h
        exact hret (1 : Int32)  H locs ls _ hP hD hS hz h dX7_rowsDiffer_46
      · have h := hf c9
        refine lv_iload_n hx hb dX7_rowsDiffer_10 rfl (lv_at hl 1 rfl) ?_
        refine lv_iconst (v := 1) hx hb dX7_rowsDiffer_11 (by decide) ?_
        refine lv_iadd hx hb dX7_rowsDiffer_12 ?_
        refine lv_istore_n (lv' := [(2, .int (x1 + (1 : Int32))), (0, .ref h_t), (1, .int x1)]) hx hb dX7_rowsDiffer_13 rfl hl (by decide) rfl (fun ls hl => ?_)
        obtain ⟨I14, m14, hI14, hB14⟩ := h
        have L14 : ∀ (x1 : Int32) (I14 : Int32 → Prop) (m14 : Int32 → Nat), (∀ (x2 : Int32), I14 x2 → pX7_rowsDiffer_14 t_n t_cells R2 K x1 x2 (fun x2' => I14 x2' ∧ m14 x2' < m14 x2)) → ∀ (n : Nat) (x2 : Int32) (H : Heap) (locs : List Loc) (ls : Array Slot), I14 x2 → m14 x2 < n → va_P G vwCl (w_X7_rowsDiffer Y h_t B_t t_n t_cells) H → va_D A (w_X7_rowsDiffer Y h_t B_t t_n t_cells) → va_S A s.heap H locs → lv_has ls 3 [(0, .ref h_t), (1, .int x1), (2, .int x2)] → W p l e R s m args below meth c H locs 0 0 Q (F0 m 14 ls []) := by
          intro x1 I14 m14 hB14 n
          induction n with
          | zero => intro x2 H locs ls _ hm; exact absurd hm (Nat.not_lt_zero _)
          | succ n ih =>
            intro x2 H locs ls hI hm hP hD hS hl
            obtain ⟨R14, h, rec14⟩ : ∃ R14 : Int32 → Prop, pX7_rowsDiffer_14 t_n t_cells R2 K x1 x2 R14 ∧ ∀ (x2 : Int32) (H : Heap) (locs : List Loc) (ls : Array Slot), R14 x2 → va_P G vwCl (w_X7_rowsDiffer Y h_t B_t t_n t_cells) H → va_D A (w_X7_rowsDiffer Y h_t B_t t_n t_cells) → va_S A s.heap H locs → lv_has ls 3 [(0, .ref h_t), (1, .int x1), (2, .int x2)] → W p l e R s m args below meth c H locs 0 0 Q (F0 m 14 ls []) := ⟨_, hB14 x2 hI, fun x2 H locs ls hh hP hD hS hl => ih x2 H locs ls hh.1 (Nat.lt_of_lt_of_le hh.2 (Nat.le_of_lt_succ hm)) hP hD hS hl⟩
            refine lv_iload_n hx hb dX7_rowsDiffer_14 rfl (lv_at hl 2 rfl) ?_
            refine lv_aload_n hx hb dX7_rowsDiffer_15 rfl (lv_at hl 0 rfl) ?_
            refine va_get (D := G) (ci := 6) (v := .int t_n) (C := RX7) (T := TX7) (N := 2) hx hb hts inX7 hown hK hP 0 rfl rfl 1 (by decide) hf15 (fun _ h9 => h9) rfl dX7_rowsDiffer_16 ?_
            obtain ⟨ht, hf⟩ := h
            refine lv_icmp_ge (tgt := 39) hx hb dX7_rowsDiffer_19 (by decide) (fun c9 => ?_) (fun c9 => ?_)
            · have h := ht c9
              refine lv_iinc (v := (x1 + 1)) (lv' := [(1, .int (x1 + 1)), (0, .ref h_t), (2, .int x2)]) hx hb dX7_rowsDiffer_39 hl (k := 1) rfl rfl (by decide) rfl (fun ls hl => ?_)
              refine lv_goto (tgt := 2) hx hb dX7_rowsDiffer_42 (by decide) ?_
              exact rec2 (x1 + 1) H locs ls h hP hD hS (lv_sub hl [1, 0] rfl)
            · have h := hf c9
              refine lv_aload_n hx hb dX7_rowsDiffer_22 rfl (lv_at hl 0 rfl) ?_
              refine lv_iload_n hx hb dX7_rowsDiffer_23 rfl (lv_at hl 1 rfl) ?_
              refine lv_iload_n hx hb dX7_rowsDiffer_24 rfl (lv_at hl 2 rfl) ?_
              refine mc_iV ⟨hx, hb, hml, hown, hts⟩ hK hE hA hP hD hS (c_X7_rowsAreAlike l G Y tF H.size h_t B_t t_n t_cells x1 x2 h) (cwV 2 hts gX7_rowsDiffer_X7_rowsAreAlike rfl rfl rfl (by decide +kernel) ⟨Nat.le_trans (by decide) hRf, Nat.le_trans (by decide) hRl⟩) (fun u => (w_X7_rowsDiffer Y h_t B_t t_n t_cells)) [0, 1] [] [0, 1] rfl rfl rfl rfl (by decide) (fun _ => rfl) rfl 0 6 rfl rfl rfl rfl hl.1 rfl (Nat.le_of_ble_eq_true rfl) dX7_rowsDiffer_25 (fun r25 u H locs h hP hD hS => ?_)
              try dsimp only at h
              have hP : va_P G vwCl (w_X7_rowsDiffer Y h_t B_t t_n t_cells) H := hP
              have hD : va_D A (w_X7_rowsDiffer Y h_t B_t t_n t_cells) := hD
              obtain ⟨ht, hf⟩ := h
              refine lv_if_eq (tgt := 33) hx hb dX7_rowsDiffer_28 (by decide) (fun c9 => ?_) (fun c9 => ?_)
              · have h := ht c9
                refine lv_iinc (v := (x2 + 1)) (lv' := [(2, .int (x2 + 1)), (0, .ref h_t), (1, .int x1)]) hx hb dX7_rowsDiffer_33 hl (k := 2) rfl rfl (by decide) rfl (fun ls hl => ?_)
                refine lv_goto (tgt := 14) hx hb dX7_rowsDiffer_36 (by decide) ?_
                exact rec14 (x2 + 1) H locs ls h hP hD hS (lv_sub hl [1, 2, 0] rfl)
              · have h := hf c9
                refine lv_iconst (v := 0) hx hb dX7_rowsDiffer_31 (by decide) ?_
                obtain ⟨hz, h⟩ := h
                exact hret (0 : Int32)  H locs ls _ hP hD hS hz h dX7_rowsDiffer_32
        exact L14 x1 I14 m14 hB14 _ (x1 + (1 : Int32)) H locs ls hI14 (Nat.lt_succ_self _) hP hD hS (lv_sub hl [1, 2, 0] rfl)
  exact L2  I2 m2 hB2 _ (0 : Int32) H locs ls hI2 (Nat.lt_succ_self _) hP hD hS (lv_sub hl [1, 0] rfl)

set_option maxHeartbeats 4000000 in
set_option maxRecDepth 100000 in
theorem c_X7_rowsDiffer (l : Launch) (G : va_G) (Y : Nat → ClassId) (tF sz : Nat) (h_t : Nat) (B_t : Nat → Nat) (t_n : Int32) (t_cells : Nat → Int32) {K : Int32 → Prop} (h : pX7_rowsDiffer t_n t_cells K) : Met l yX7_rowsDiffer wsX7_rowsDiffer ({ frames := 2, cells := 0, slots := 0, locals := 45 }) (PcM G Y tF sz (w_X7_rowsDiffer Y h_t B_t t_n t_cells) [.ref h_t]) (va_Qi (fun (r : Int32) (u : Unit) => K r ) (fun u t => BM G Y (va_A (w_X7_rowsDiffer Y h_t B_t t_n t_cells) sz) (w_X7_rowsDiffer Y h_t B_t t_n t_cells) t) (va_A (w_X7_rowsDiffer Y h_t B_t t_n t_cells) sz)) 0 0 (va_A (w_X7_rowsDiffer Y h_t B_t t_n t_cells) sz) := by
  refine Met.ofW (cc := cX7_rowsDiffer) (maxL := 3) (ret := (some .boolean)) (by decide +kernel) rfl ?_
  intro p e s m args below meth c s₁ B hml hv
  obtain ⟨rfl, hsz, hP, hK, hD0, hE⟩ := hv
  have hts := atoms_spec (ws := wsX7_rowsDiffer) B.pre
  have hown : s.vm.findClass RX7 = some m.cls := findClass_of_methodNamed B.named
  have hlocks := B.notSynchronized
  subst hsz
  have hD := hD0.self (sz := s.heap.size)
  exact wk_X7_rowsDiffer h_t B_t t_n t_cells B.exec B.bytes hml hown hts hK hE (fun q h => Or.inr h) (Nat.le_refl _) (Nat.le_refl _) (fun r  H locs ls pc hP hD hS hz hk hd => W.zret (v := r) B.exec B.bytes B.returns hz.n (fun t ht hW => ⟨⟨r, (), rfl, hk, by rw [ht]; exact hP, va_K.moved hW.alike hK, hD⟩, hS.F ht⟩) hS.2.2 hd) hP hD h

abbrev w_X7_columnsHaveAll (Y : Nat → ClassId) (h_t : Nat) (B_t : Nat → Nat) (t_n : Int32) (t_cells : Nat → Int32) : va_W := [(h_t, .inr (6, [.ref (B_t 0), .int t_n])), ((B_t 0), .inl (Y 0, 64, .inl t_cells))]

set_option maxHeartbeats 4000000 in
set_option maxRecDepth 100000 in
theorem wk_X7_columnsHaveAll {p : Program} {l : Launch} {e : Env} {R : Room} {s : State} {m : MethodId} {args : Array Value} {below : List Frame} {meth : Method} {c : Code} {Q : State → Prop} {G : va_G} {Y : Nat → ClassId} {tF : Nat} {A : Nat → Prop} (h_t : Nat) (B_t : Nat → Nat) (t_n : Int32) (t_cells : Nat → Int32) {K : Int32 → Prop} (hx : p.tables.exec = Jvm.exec) (hb : c.code = cX7_columnsHaveAll) (hml : c.maxLocals = 5) (hown : s.vm.findClass RX7 = some m.cls) (hts : ∀ w ∈ wsX7_columnsHaveAll, w.before args s = true) (hK : va_K G vwCl (tyL Y) s) (hE : Ev A tF s) (hA : ∀ q, s.heap.size ≤ q → A q) (hRf : 1 ≤ R.frames) (hRl : 22 ≤ R.locals) (hret : ∀ (r : Int32)  (H : Heap) (locs : List Loc) (ls : Array Slot) (pc : Nat), va_P G vwCl (w_X7_columnsHaveAll Y h_t B_t t_n t_cells) H → va_D A (w_X7_columnsHaveAll Y h_t B_t t_n t_cells) → va_S A s.heap H locs → zb r → K r → decode cX7_columnsHaveAll pc = .ok (.ireturn, 1) → W p l e R s m args below meth c H locs 0 0 Q (F0 m pc ls [.int r])) (hP : va_P G vwCl (w_X7_columnsHaveAll Y h_t B_t t_n t_cells) s.heap) (hD : va_D A (w_X7_columnsHaveAll Y h_t B_t t_n t_cells)) (h : pX7_columnsHaveAll t_n t_cells K) : W p l e R s m args below meth c s.heap [] 0 0 Q (entryFrame m ([.ref h_t] : List Value).toArray 5) := by
  have inX7 : ∀ w ∈ u_ws RX7 TX7 2, w ∈ wsX7_columnsHaveAll := by decide +kernel
  have hf15 := hts (.fieldLink RX7 15 "RackBench$Table" "n" "I") (by decide +kernel)
  have hl := lv_entry ([.ref h_t]) (n := 5) (Nat.le_of_ble_eq_true rfl)
  rw [lg_entry_eq]
  generalize (lg_sl ([.ref h_t]) ++ List.replicate (5 - (lg_sl ([.ref h_t])).length) Slot.unset).toArray = ls at hl ⊢
  have hl : lv_has ls 5 [(0, .ref h_t)] := hl
  generalize hH0 : s.heap = H at hP ⊢
  have hS : va_S A s.heap H [] := by rw [← hH0]; exact va_S.rf
  clear hH0
  generalize ([] : List Loc) = locs at hS ⊢
  refine lv_iconst (v := 1) hx hb dX7_columnsHaveAll_0 (by decide) ?_
  refine lv_aload_n hx hb dX7_columnsHaveAll_1 rfl (lv_at hl 0 rfl) ?_
  refine va_get (D := G) (ci := 6) (v := .int t_n) (C := RX7) (T := TX7) (N := 2) hx hb hts inX7 hown hK hP 0 rfl rfl 1 (by decide) hf15 (fun _ h9 => h9) rfl dX7_columnsHaveAll_2 ?_
  refine lv_ishl hx hb dX7_columnsHaveAll_5 ?_
  refine lv_iconst (v := 1) hx hb dX7_columnsHaveAll_6 (by decide) ?_
  refine lv_isub hx hb dX7_columnsHaveAll_7 ?_
  refine lv_istore_n (lv' := [(1, .int (((1 : Int32) <<< (t_n &&& 31)) - (1 : Int32))), (0, .ref h_t)]) hx hb dX7_columnsHaveAll_8 rfl hl (by decide) rfl (fun ls hl => ?_)
  refine lv_iconst (v := 0) hx hb dX7_columnsHaveAll_9 (by decide) ?_
  refine lv_istore_n (lv' := [(2, .int (0 : Int32)), (1, .int (((1 : Int32) <<< (t_n &&& 31)) - (1 : Int32))), (0, .ref h_t)]) hx hb dX7_columnsHaveAll_10 rfl hl (by decide) rfl (fun ls hl => ?_)
  obtain ⟨I11, m11, hI11, hB11⟩ := h
  have L11 : ∀ (x1 : Int32) (I11 : Int32 → Prop) (m11 : Int32 → Nat), (∀ (x2 : Int32), I11 x2 → pX7_columnsHaveAll_11 t_n t_cells K x1 x2 (fun x2' => I11 x2' ∧ m11 x2' < m11 x2)) → ∀ (n : Nat) (x2 : Int32) (H : Heap) (locs : List Loc) (ls : Array Slot), I11 x2 → m11 x2 < n → va_P G vwCl (w_X7_columnsHaveAll Y h_t B_t t_n t_cells) H → va_D A (w_X7_columnsHaveAll Y h_t B_t t_n t_cells) → va_S A s.heap H locs → lv_has ls 5 [(0, .ref h_t), (1, .int x1), (2, .int x2)] → W p l e R s m args below meth c H locs 0 0 Q (F0 m 11 ls []) := by
    intro x1 I11 m11 hB11 n
    induction n with
    | zero => intro x2 H locs ls _ hm; exact absurd hm (Nat.not_lt_zero _)
    | succ n ih =>
      intro x2 H locs ls hI hm hP hD hS hl
      obtain ⟨R11, h, rec11⟩ : ∃ R11 : Int32 → Prop, pX7_columnsHaveAll_11 t_n t_cells K x1 x2 R11 ∧ ∀ (x2 : Int32) (H : Heap) (locs : List Loc) (ls : Array Slot), R11 x2 → va_P G vwCl (w_X7_columnsHaveAll Y h_t B_t t_n t_cells) H → va_D A (w_X7_columnsHaveAll Y h_t B_t t_n t_cells) → va_S A s.heap H locs → lv_has ls 5 [(0, .ref h_t), (1, .int x1), (2, .int x2)] → W p l e R s m args below meth c H locs 0 0 Q (F0 m 11 ls []) := ⟨_, hB11 x2 hI, fun x2 H locs ls hh hP hD hS hl => ih x2 H locs ls hh.1 (Nat.lt_of_lt_of_le hh.2 (Nat.le_of_lt_succ hm)) hP hD hS hl⟩
      refine lv_iload_n hx hb dX7_columnsHaveAll_11 rfl (lv_at hl 2 rfl) ?_
      refine lv_aload_n hx hb dX7_columnsHaveAll_12 rfl (lv_at hl 0 rfl) ?_
      refine va_get (D := G) (ci := 6) (v := .int t_n) (C := RX7) (T := TX7) (N := 2) hx hb hts inX7 hown hK hP 0 rfl rfl 1 (by decide) hf15 (fun _ h9 => h9) rfl dX7_columnsHaveAll_13 ?_
      obtain ⟨ht, hf⟩ := h
      refine lv_icmp_ge (tgt := 64) hx hb dX7_columnsHaveAll_16 (by decide) (fun c9 => ?_) (fun c9 => ?_)
      · have h := ht c9
        refine lv_iconst (v := 1) hx hb dX7_columnsHaveAll_64 (by decide) ?_
        obtain ⟨hz, h⟩ := h
        exact hret (1 : Int32)  H locs ls _ hP hD hS hz h dX7_columnsHaveAll_65
      · have h := hf c9
        refine lv_iconst (v := 0) hx hb dX7_columnsHaveAll_19 (by decide) ?_
        refine lv_istore_n (lv' := [(3, .int (0 : Int32)), (0, .ref h_t), (1, .int x1), (2, .int x2)]) hx hb dX7_columnsHaveAll_20 rfl hl (by decide) rfl (fun ls hl => ?_)
        refine lv_iconst (v := 0) hx hb dX7_columnsHaveAll_21 (by decide) ?_
        refine lv_istore (lv' := [(4, .int (0 : Int32)), (3, .int (0 : Int32)), (0, .ref h_t), (1, .int x1), (2, .int x2)]) hx hb dX7_columnsHaveAll_22 hl (by decide) rfl (fun ls hl => ?_)
        obtain ⟨I24, m24, hI24, hB24⟩ := h
        have L24 : ∀ (x2 : Int32) (I24 : Int32 → Int32 → Prop) (m24 : Int32 → Int32 → Nat), (∀ (x3 : Int32) (x4 : Int32), I24 x3 x4 → pX7_columnsHaveAll_24 t_n t_cells R11 K x1 x2 x3 x4 (fun x3' x4' => I24 x3' x4' ∧ m24 x3' x4' < m24 x3 x4)) → ∀ (n : Nat) (x3 : Int32) (x4 : Int32) (H : Heap) (locs : List Loc) (ls : Array Slot), I24 x3 x4 → m24 x3 x4 < n → va_P G vwCl (w_X7_columnsHaveAll Y h_t B_t t_n t_cells) H → va_D A (w_X7_columnsHaveAll Y h_t B_t t_n t_cells) → va_S A s.heap H locs → lv_has ls 5 [(0, .ref h_t), (1, .int x1), (2, .int x2), (3, .int x3), (4, .int x4)] → W p l e R s m args below meth c H locs 0 0 Q (F0 m 24 ls []) := by
          intro x2 I24 m24 hB24 n
          induction n with
          | zero => intro x3 x4 H locs ls _ hm; exact absurd hm (Nat.not_lt_zero _)
          | succ n ih =>
            intro x3 x4 H locs ls hI hm hP hD hS hl
            obtain ⟨R24, h, rec24⟩ : ∃ R24 : Int32 → Int32 → Prop, pX7_columnsHaveAll_24 t_n t_cells R11 K x1 x2 x3 x4 R24 ∧ ∀ (x3 : Int32) (x4 : Int32) (H : Heap) (locs : List Loc) (ls : Array Slot), R24 x3 x4 → va_P G vwCl (w_X7_columnsHaveAll Y h_t B_t t_n t_cells) H → va_D A (w_X7_columnsHaveAll Y h_t B_t t_n t_cells) → va_S A s.heap H locs → lv_has ls 5 [(0, .ref h_t), (1, .int x1), (2, .int x2), (3, .int x3), (4, .int x4)] → W p l e R s m args below meth c H locs 0 0 Q (F0 m 24 ls []) := ⟨_, hB24 x3 x4 hI, fun x3 x4 H locs ls hh hP hD hS hl => ih x3 x4 H locs ls hh.1 (Nat.lt_of_lt_of_le hh.2 (Nat.le_of_lt_succ hm)) hP hD hS hl⟩
            refine lv_iload hx hb dX7_columnsHaveAll_24 (lv_at hl 4 rfl) ?_
            refine lv_aload_n hx hb dX7_columnsHaveAll_26 rfl (lv_at hl 0 rfl) ?_
            refine va_get (D := G) (ci := 6) (v := .int t_n) (C := RX7) (T := TX7) (N := 2) hx hb hts inX7 hown hK hP 0 rfl rfl 1 (by decide) hf15 (fun _ h9 => h9) rfl dX7_columnsHaveAll_27 ?_
            obtain ⟨ht, hf⟩ := h
            refine lv_icmp_ge (tgt := 51) hx hb dX7_columnsHaveAll_30 (by decide) (fun c9 => ?_) (fun c9 => ?_)
            · have h := ht c9
              refine lv_iload_n hx hb dX7_columnsHaveAll_51 rfl (lv_at hl 3 rfl) ?_
              refine lv_iload_n hx hb dX7_columnsHaveAll_52 rfl (lv_at hl 1 rfl) ?_
              obtain ⟨ht, hf⟩ := h
              refine lv_icmp_eq (tgt := 58) hx hb dX7_columnsHaveAll_53 (by decide) (fun c9 => ?_) (fun c9 => ?_)
              · have h := ht c9
                refine lv_iinc (v := (x2 + 1)) (lv' := [(2, .int (x2 + 1)), (0, .ref h_t), (1, .int x1), (3, .int x3), (4, .int x4)]) hx hb dX7_columnsHaveAll_58 hl (k := 2) rfl rfl (by decide) rfl (fun ls hl => ?_)
                refine lv_goto (tgt := 11) hx hb dX7_columnsHaveAll_61 (by decide) ?_
                exact rec11 (x2 + 1) H locs ls h hP hD hS (lv_sub hl [1, 2, 0] rfl)
              · have h := hf c9
                refine lv_iconst (v := 0) hx hb dX7_columnsHaveAll_56 (by decide) ?_
                obtain ⟨hz, h⟩ := h
                exact hret (0 : Int32)  H locs ls _ hP hD hS hz h dX7_columnsHaveAll_57
            · have h := hf c9
              refine lv_iload_n hx hb dX7_columnsHaveAll_33 rfl (lv_at hl 3 rfl) ?_
              refine lv_iconst (v := 1) hx hb dX7_columnsHaveAll_34 (by decide) ?_
              refine lv_aload_n hx hb dX7_columnsHaveAll_35 rfl (lv_at hl 0 rfl) ?_
              refine lv_iload hx hb dX7_columnsHaveAll_36 (lv_at hl 4 rfl) ?_
              refine lv_iload_n hx hb dX7_columnsHaveAll_38 rfl (lv_at hl 2 rfl) ?_
              refine mc_iV ⟨hx, hb, hml, hown, hts⟩ hK hE hA hP hD hS (c_X7_turned l G Y tF H.size h_t B_t t_n t_cells x4 x2 h) (cwV 2 hts gX7_columnsHaveAll_X7_turned rfl rfl rfl (by decide +kernel) ⟨Nat.le_trans (by decide) hRf, Nat.le_trans (by decide) hRl⟩) (fun u => (w_X7_columnsHaveAll Y h_t B_t t_n t_cells)) [0, 1] [] [0, 1] rfl rfl rfl rfl (by decide) (fun _ => rfl) rfl 0 6 rfl rfl rfl rfl hl.1 rfl (Nat.le_of_ble_eq_true rfl) dX7_columnsHaveAll_39 (fun r39 u H locs h hP hD hS => ?_)
              try dsimp only at h
              have hP : va_P G vwCl (w_X7_columnsHaveAll Y h_t B_t t_n t_cells) H := hP
              have hD : va_D A (w_X7_columnsHaveAll Y h_t B_t t_n t_cells) := hD
              refine lv_ishl hx hb dX7_columnsHaveAll_42 ?_
              refine lv_ior hx hb dX7_columnsHaveAll_43 ?_
              refine lv_istore_n (lv' := [(3, .int (x3 ||| ((1 : Int32) <<< (r39 &&& 31)))), (0, .ref h_t), (1, .int x1), (2, .int x2), (4, .int x4)]) hx hb dX7_columnsHaveAll_44 rfl hl (by decide) rfl (fun ls hl => ?_)
              refine lv_iinc (v := (x4 + 1)) (lv' := [(4, .int (x4 + 1)), (3, .int (x3 ||| ((1 : Int32) <<< (r39 &&& 31)))), (0, .ref h_t), (1, .int x1), (2, .int x2)]) hx hb dX7_columnsHaveAll_45 hl (k := 4) rfl rfl (by decide) rfl (fun ls hl => ?_)
              refine lv_goto (tgt := 24) hx hb dX7_columnsHaveAll_48 (by decide) ?_
              exact rec24 (x3 ||| ((1 : Int32) <<< (r39 &&& 31))) (x4 + 1) H locs ls h hP hD hS (lv_sub hl [2, 3, 4, 1, 0] rfl)
        exact L24 x2 I24 m24 hB24 _ (0 : Int32) (0 : Int32) H locs ls hI24 (Nat.lt_succ_self _) hP hD hS (lv_sub hl [2, 3, 4, 1, 0] rfl)
  exact L11 (((1 : Int32) <<< (t_n &&& 31)) - (1 : Int32)) I11 m11 hB11 _ (0 : Int32) H locs ls hI11 (Nat.lt_succ_self _) hP hD hS (lv_sub hl [2, 1, 0] rfl)

set_option maxHeartbeats 4000000 in
set_option maxRecDepth 100000 in
theorem c_X7_columnsHaveAll (l : Launch) (G : va_G) (Y : Nat → ClassId) (tF sz : Nat) (h_t : Nat) (B_t : Nat → Nat) (t_n : Int32) (t_cells : Nat → Int32) {K : Int32 → Prop} (h : pX7_columnsHaveAll t_n t_cells K) : Met l yX7_columnsHaveAll wsX7_columnsHaveAll ({ frames := 1, cells := 0, slots := 0, locals := 22 }) (PcM G Y tF sz (w_X7_columnsHaveAll Y h_t B_t t_n t_cells) [.ref h_t]) (va_Qi (fun (r : Int32) (u : Unit) => K r ) (fun u t => BM G Y (va_A (w_X7_columnsHaveAll Y h_t B_t t_n t_cells) sz) (w_X7_columnsHaveAll Y h_t B_t t_n t_cells) t) (va_A (w_X7_columnsHaveAll Y h_t B_t t_n t_cells) sz)) 0 0 (va_A (w_X7_columnsHaveAll Y h_t B_t t_n t_cells) sz) := by
  refine Met.ofW (cc := cX7_columnsHaveAll) (maxL := 5) (ret := (some .boolean)) (by decide +kernel) rfl ?_
  intro p e s m args below meth c s₁ B hml hv
  obtain ⟨rfl, hsz, hP, hK, hD0, hE⟩ := hv
  have hts := atoms_spec (ws := wsX7_columnsHaveAll) B.pre
  have hown : s.vm.findClass RX7 = some m.cls := findClass_of_methodNamed B.named
  have hlocks := B.notSynchronized
  subst hsz
  have hD := hD0.self (sz := s.heap.size)
  exact wk_X7_columnsHaveAll h_t B_t t_n t_cells B.exec B.bytes hml hown hts hK hE (fun q h => Or.inr h) (Nat.le_refl _) (Nat.le_refl _) (fun r  H locs ls pc hP hD hS hz hk hd => W.zret (v := r) B.exec B.bytes B.returns hz.n (fun t ht hW => ⟨⟨r, (), rfl, hk, by rw [ht]; exact hP, va_K.moved hW.alike hK, hD⟩, hS.F ht⟩) hS.2.2 hd) hP hD h

abbrev w_X9_flatten (Y : Nat → ClassId) (h_t : Nat) (B_t : Nat → Nat) (t_modulus : Int32) (t_values : Nat → Int32) : va_W := [(h_t, .inr (8, [.ref (B_t 0), .int t_modulus])), ((B_t 0), .inl (Y 0, 64, .inl t_values))]

set_option maxHeartbeats 4000000 in
set_option maxRecDepth 100000 in
theorem wk_X9_flatten {p : Program} {l : Launch} {e : Env} {R : Room} {s : State} {m : MethodId} {args : Array Value} {below : List Frame} {meth : Method} {c : Code} {Q : State → Prop} {G : va_G} {Y : Nat → ClassId} {tF : Nat} {A : Nat → Prop} (h_t : Nat) (B_t : Nat → Nat) (t_modulus : Int32) (t_values : Nat → Int32) {K : (Nat → Int32) → Prop} (hx : p.tables.exec = Jvm.exec) (hb : c.code = cX9_flatten) (hml : c.maxLocals = 1) (hown : s.vm.findClass RX9 = some m.cls) (hts : ∀ w ∈ wsX9_flatten, w.before args s = true) (hK : va_K G vwCl (tyL Y) s) (hE : Ev A tF s) (hA : ∀ q, s.heap.size ≤ q → A q) (hRf : 1 ≤ R.frames) (hRl : 23 ≤ R.locals) (hret : ∀ (t_values : Nat → Int32) (H : Heap) (locs : List Loc) (ls : Array Slot) (pc : Nat), va_P G vwCl (w_X9_flatten Y h_t B_t t_modulus t_values) H → va_D A (w_X9_flatten Y h_t B_t t_modulus t_values) → va_S A s.heap H locs → K t_values → decode cX9_flatten pc = .ok (.return_, 1) → W p l e R s m args below meth c H locs 0 0 Q (F0 m pc ls [])) (hP : va_P G vwCl (w_X9_flatten Y h_t B_t t_modulus t_values) s.heap) (hD : va_D A (w_X9_flatten Y h_t B_t t_modulus t_values)) (h : pX9_flatten t_values K) : W p l e R s m args below meth c s.heap [] 0 0 Q (entryFrame m ([.ref h_t] : List Value).toArray 1) := by
  have inX9 : ∀ w ∈ u_ws RX9 TX9 2, w ∈ wsX9_flatten := by decide +kernel
  have hf9 := hts (.fieldLink RX9 9 "RackBench$Twist" "values" "[I") (by decide +kernel)
  have hl := lv_entry ([.ref h_t]) (n := 1) (Nat.le_of_ble_eq_true rfl)
  rw [lg_entry_eq]
  generalize (lg_sl ([.ref h_t]) ++ List.replicate (1 - (lg_sl ([.ref h_t])).length) Slot.unset).toArray = ls at hl ⊢
  have hl : lv_has ls 1 [(0, .ref h_t)] := hl
  generalize hH0 : s.heap = H at hP ⊢
  have hS : va_S A s.heap H [] := by rw [← hH0]; exact va_S.rf
  clear hH0
  generalize ([] : List Loc) = locs at hS ⊢
  refine lv_aload_n hx hb dX9_flatten_0 rfl (lv_at hl 0 rfl) ?_
  refine va_get (D := G) (ci := 8) (v := .ref (B_t 0)) (C := RX9) (T := TX9) (N := 2) hx hb hts inX9 hown hK hP 0 rfl rfl 0 (by decide) hf9 (fun _ h9 => h9) rfl dX9_flatten_1 ?_
  refine lv_iconst (v := 0) hx hb dX9_flatten_4 (by decide) ?_
  refine mc_vS ⟨hx, hb, hml, hown, hts⟩ hK hE hA hP hD hS (c_J7_fill_53178 l G Y tF H.size (B_t 0) 64 t_values (0 : Int32) h) (va_cwS 2 hts gX9_flatten_J7_fill_53178 rfl rfl rfl (by decide +kernel) ⟨Nat.le_trans (by decide) hRf, Nat.le_trans (by decide) hRl⟩) (fun u => (w_X9_flatten Y h_t B_t t_modulus u)) [1] [0] [0, 1] rfl rfl rfl rfl (by decide) (fun _ => rfl) rfl rfl hl.1 rfl (Nat.le_of_ble_eq_true rfl) dX9_flatten_5 (fun u H locs h hP hD hS => ?_)
  obtain ⟨t_values_5, rfl⟩ : ∃ z, z = u := ⟨_, rfl⟩
  try dsimp only at h
  have hP : va_P G vwCl (w_X9_flatten Y h_t B_t t_modulus t_values_5) H := hP
  have hD : va_D A (w_X9_flatten Y h_t B_t t_modulus t_values_5) := hD
  exact hret t_values_5 H locs ls _ hP hD hS h dX9_flatten_8

set_option maxHeartbeats 4000000 in
set_option maxRecDepth 100000 in
theorem c_X9_flatten (l : Launch) (G : va_G) (Y : Nat → ClassId) (tF sz : Nat) (h_t : Nat) (B_t : Nat → Nat) (t_modulus : Int32) (t_values : Nat → Int32) {K : (Nat → Int32) → Prop} (h : pX9_flatten t_values K) : Met l yX9_flatten wsX9_flatten ({ frames := 1, cells := 0, slots := 0, locals := 23 }) (PcM G Y tF sz (w_X9_flatten Y h_t B_t t_modulus t_values) [.ref h_t]) (va_Qv (fun u : (Nat → Int32) => K u) (fun u t => BM G Y (va_A (w_X9_flatten Y h_t B_t t_modulus t_values) sz) (w_X9_flatten Y h_t B_t t_modulus u) t) (va_A (w_X9_flatten Y h_t B_t t_modulus t_values) sz)) 0 0 (va_A (w_X9_flatten Y h_t B_t t_modulus t_values) sz) := by
  refine Met.ofW (cc := cX9_flatten) (maxL := 1) (ret := none) (by decide +kernel) rfl ?_
  intro p e s m args below meth c s₁ B hml hv
  obtain ⟨rfl, hsz, hP, hK, hD0, hE⟩ := hv
  have hts := atoms_spec (ws := wsX9_flatten) B.pre
  have hown : s.vm.findClass RX9 = some m.cls := findClass_of_methodNamed B.named
  have hlocks := B.notSynchronized
  subst hsz
  have hD := hD0.self (sz := s.heap.size)
  exact wk_X9_flatten h_t B_t t_modulus t_values B.exec B.bytes hml hown hts hK hE (fun q h => Or.inr h) (Nat.le_refl _) (Nat.le_refl _) (fun t_values H locs ls pc hP hD hS hk hd => W.vret B.exec B.bytes B.returns (fun t ht hW => ⟨⟨t_values, rfl, hk, by rw [ht]; exact hP, va_K.moved hW.alike hK, hD⟩, hS.F ht⟩) hS.2.2 hd) hP hD h

abbrev w_X9_value (Y : Nat → ClassId) (h_t : Nat) (B_t : Nat → Nat) (t_modulus : Int32) (t_values : Nat → Int32) : va_W := [(h_t, .inr (8, [.ref (B_t 0), .int t_modulus])), ((B_t 0), .inl (Y 0, 64, .inl t_values))]

set_option maxHeartbeats 4000000 in
set_option maxRecDepth 100000 in
theorem wk_X9_value {p : Program} {l : Launch} {e : Env} {R : Room} {s : State} {m : MethodId} {args : Array Value} {below : List Frame} {meth : Method} {c : Code} {Q : State → Prop} {G : va_G} {Y : Nat → ClassId} {tF : Nat} {A : Nat → Prop} (h_t : Nat) (B_t : Nat → Nat) (t_modulus : Int32) (t_values : Nat → Int32) (x1 : Int32) (x2 : Int32) {K : Int32 → Prop} (hx : p.tables.exec = Jvm.exec) (hb : c.code = cX9_value) (hml : c.maxLocals = 3) (hown : s.vm.findClass RX9 = some m.cls) (hts : ∀ w ∈ wsX9_value, w.before args s = true) (hK : va_K G vwCl (tyL Y) s) (hE : Ev A tF s) (hA : ∀ q, s.heap.size ≤ q → A q) (hRf : 0 ≤ R.frames) (hRl : 0 ≤ R.locals) (hret : ∀ (r : Int32)  (H : Heap) (locs : List Loc) (ls : Array Slot) (pc : Nat), va_P G vwCl (w_X9_value Y h_t B_t t_modulus t_values) H → va_D A (w_X9_value Y h_t B_t t_modulus t_values) → va_S A s.heap H locs → K r → decode cX9_value pc = .ok (.ireturn, 1) → W p l e R s m args below meth c H locs 0 0 Q (F0 m pc ls [.int r])) (hP : va_P G vwCl (w_X9_value Y h_t B_t t_modulus t_values) s.heap) (hD : va_D A (w_X9_value Y h_t B_t t_modulus t_values)) (h : pX9_value t_values x1 x2 K) : W p l e R s m args below meth c s.heap [] 0 0 Q (entryFrame m ([.ref h_t, .int x1, .int x2] : List Value).toArray 3) := by
  have inX9 : ∀ w ∈ u_ws RX9 TX9 2, w ∈ wsX9_value := by decide +kernel
  have hf9 := hts (.fieldLink RX9 9 "RackBench$Twist" "values" "[I") (by decide +kernel)
  have hl := lv_entry ([.ref h_t, .int x1, .int x2]) (n := 3) (Nat.le_of_ble_eq_true rfl)
  rw [lg_entry_eq]
  generalize (lg_sl ([.ref h_t, .int x1, .int x2]) ++ List.replicate (3 - (lg_sl ([.ref h_t, .int x1, .int x2])).length) Slot.unset).toArray = ls at hl ⊢
  have hl : lv_has ls 3 [(0, .ref h_t), (1, .int x1), (2, .int x2)] := hl
  generalize hH0 : s.heap = H at hP ⊢
  have hS : va_S A s.heap H [] := by rw [← hH0]; exact va_S.rf
  clear hH0
  generalize ([] : List Loc) = locs at hS ⊢
  refine lv_aload_n hx hb dX9_value_0 rfl (lv_at hl 0 rfl) ?_
  refine va_get (D := G) (ci := 8) (v := .ref (B_t 0)) (C := RX9) (T := TX9) (N := 2) hx hb hts inX9 hown hK hP 0 rfl rfl 0 (by decide) hf9 (fun _ h9 => h9) rfl dX9_value_1 ?_
  refine lv_iload_n hx hb dX9_value_4 rfl (lv_at hl 1 rfl) ?_
  refine lv_bipush (v := 8) hx hb dX9_value_5 (by decide) ?_
  refine lv_imul hx hb dX9_value_7 ?_
  refine lv_iload_n hx hb dX9_value_8 rfl (lv_at hl 2 rfl) ?_
  refine lv_iadd hx hb dX9_value_9 ?_
  obtain ⟨hin, h⟩ := h
  refine va_iald hx hb hK hP 1 0 rfl rfl hin dX9_value_10 ?_
  exact hret (t_values (Int32.toNatClampNeg ((x1 * (8 : Int32)) + x2)))  H locs ls _ hP hD hS h dX9_value_11

set_option maxHeartbeats 4000000 in
set_option maxRecDepth 100000 in
theorem c_X9_value (l : Launch) (G : va_G) (Y : Nat → ClassId) (tF sz : Nat) (h_t : Nat) (B_t : Nat → Nat) (t_modulus : Int32) (t_values : Nat → Int32) (x1 : Int32) (x2 : Int32) {K : Int32 → Prop} (h : pX9_value t_values x1 x2 K) : Met l yX9_value wsX9_value ({ frames := 0, cells := 0, slots := 0, locals := 0 }) (PcM G Y tF sz (w_X9_value Y h_t B_t t_modulus t_values) [.ref h_t, .int x1, .int x2]) (va_Qi (fun (r : Int32) (u : Unit) => K r ) (fun u t => BM G Y (va_A (w_X9_value Y h_t B_t t_modulus t_values) sz) (w_X9_value Y h_t B_t t_modulus t_values) t) (va_A (w_X9_value Y h_t B_t t_modulus t_values) sz)) 0 0 (va_A (w_X9_value Y h_t B_t t_modulus t_values) sz) := by
  refine Met.ofW (cc := cX9_value) (maxL := 3) (ret := (some .int)) (by decide +kernel) rfl ?_
  intro p e s m args below meth c s₁ B hml hv
  obtain ⟨rfl, hsz, hP, hK, hD0, hE⟩ := hv
  have hts := atoms_spec (ws := wsX9_value) B.pre
  have hown : s.vm.findClass RX9 = some m.cls := findClass_of_methodNamed B.named
  have hlocks := B.notSynchronized
  subst hsz
  have hD := hD0.self (sz := s.heap.size)
  exact wk_X9_value h_t B_t t_modulus t_values x1 x2 B.exec B.bytes hml hown hts hK hE (fun q h => Or.inr h) (Nat.le_refl _) (Nat.le_refl _) (fun r  H locs ls pc hP hD hS hk hd => W.iret (v := r) B.exec B.bytes B.returns (fun t ht hW => ⟨⟨r, (), rfl, hk, by rw [ht]; exact hP, va_K.moved hW.alike hK, hD⟩, hS.F ht⟩) hS.2.2 hd) hP hD h

abbrev w_X9_put (Y : Nat → ClassId) (h_t : Nat) (B_t : Nat → Nat) (t_modulus : Int32) (t_values : Nat → Int32) : va_W := [(h_t, .inr (8, [.ref (B_t 0), .int t_modulus])), ((B_t 0), .inl (Y 0, 64, .inl t_values))]

set_option maxHeartbeats 4000000 in
set_option maxRecDepth 100000 in
theorem wk_X9_put {p : Program} {l : Launch} {e : Env} {R : Room} {s : State} {m : MethodId} {args : Array Value} {below : List Frame} {meth : Method} {c : Code} {Q : State → Prop} {G : va_G} {Y : Nat → ClassId} {tF : Nat} {A : Nat → Prop} (h_t : Nat) (B_t : Nat → Nat) (t_modulus : Int32) (t_values : Nat → Int32) (x1 : Int32) (x2 : Int32) (x3 : Int32) {K : (Nat → Int32) → Prop} (hx : p.tables.exec = Jvm.exec) (hb : c.code = cX9_put) (hml : c.maxLocals = 4) (hown : s.vm.findClass RX9 = some m.cls) (hts : ∀ w ∈ wsX9_put, w.before args s = true) (hK : va_K G vwCl (tyL Y) s) (hE : Ev A tF s) (hA : ∀ q, s.heap.size ≤ q → A q) (hRf : 0 ≤ R.frames) (hRl : 0 ≤ R.locals) (hret : ∀ (t_values : Nat → Int32) (H : Heap) (locs : List Loc) (ls : Array Slot) (pc : Nat), va_P G vwCl (w_X9_put Y h_t B_t t_modulus t_values) H → va_D A (w_X9_put Y h_t B_t t_modulus t_values) → va_S A s.heap H locs → K t_values → decode cX9_put pc = .ok (.return_, 1) → W p l e R s m args below meth c H locs 0 0 Q (F0 m pc ls [])) (hP : va_P G vwCl (w_X9_put Y h_t B_t t_modulus t_values) s.heap) (hD : va_D A (w_X9_put Y h_t B_t t_modulus t_values)) (h : pX9_put t_values x1 x2 x3 K) : W p l e R s m args below meth c s.heap [] 0 0 Q (entryFrame m ([.ref h_t, .int x1, .int x2, .int x3] : List Value).toArray 4) := by
  have inX9 : ∀ w ∈ u_ws RX9 TX9 2, w ∈ wsX9_put := by decide +kernel
  have hf9 := hts (.fieldLink RX9 9 "RackBench$Twist" "values" "[I") (by decide +kernel)
  have hl := lv_entry ([.ref h_t, .int x1, .int x2, .int x3]) (n := 4) (Nat.le_of_ble_eq_true rfl)
  rw [lg_entry_eq]
  generalize (lg_sl ([.ref h_t, .int x1, .int x2, .int x3]) ++ List.replicate (4 - (lg_sl ([.ref h_t, .int x1, .int x2, .int x3])).length) Slot.unset).toArray = ls at hl ⊢
  have hl : lv_has ls 4 [(0, .ref h_t), (1, .int x1), (2, .int x2), (3, .int x3)] := hl
  generalize hH0 : s.heap = H at hP ⊢
  have hS : va_S A s.heap H [] := by rw [← hH0]; exact va_S.rf
  clear hH0
  generalize ([] : List Loc) = locs at hS ⊢
  refine lv_aload_n hx hb dX9_put_0 rfl (lv_at hl 0 rfl) ?_
  refine va_get (D := G) (ci := 8) (v := .ref (B_t 0)) (C := RX9) (T := TX9) (N := 2) hx hb hts inX9 hown hK hP 0 rfl rfl 0 (by decide) hf9 (fun _ h9 => h9) rfl dX9_put_1 ?_
  refine lv_iload_n hx hb dX9_put_4 rfl (lv_at hl 1 rfl) ?_
  refine lv_bipush (v := 8) hx hb dX9_put_5 (by decide) ?_
  refine lv_imul hx hb dX9_put_7 ?_
  refine lv_iload_n hx hb dX9_put_8 rfl (lv_at hl 2 rfl) ?_
  refine lv_iadd hx hb dX9_put_9 ?_
  refine lv_iload_n hx hb dX9_put_10 rfl (lv_at hl 3 rfl) ?_
  obtain ⟨hin, h⟩ := h
  refine va_iast hx hb hK hP hD hS 1 0 rfl rfl hin dX9_put_11 (fun H locs hP hD hS => ?_)
  have hP : va_P G vwCl (w_X9_put Y h_t B_t t_modulus (upd t_values (Int32.toNatClampNeg ((x1 * (8 : Int32)) + x2)) x3)) H := hP
  have hD : va_D A (w_X9_put Y h_t B_t t_modulus (upd t_values (Int32.toNatClampNeg ((x1 * (8 : Int32)) + x2)) x3)) := hD
  exact hret (upd t_values (Int32.toNatClampNeg ((x1 * (8 : Int32)) + x2)) x3) H locs ls _ hP hD hS h dX9_put_12

set_option maxHeartbeats 4000000 in
set_option maxRecDepth 100000 in
theorem c_X9_put (l : Launch) (G : va_G) (Y : Nat → ClassId) (tF sz : Nat) (h_t : Nat) (B_t : Nat → Nat) (t_modulus : Int32) (t_values : Nat → Int32) (x1 : Int32) (x2 : Int32) (x3 : Int32) {K : (Nat → Int32) → Prop} (h : pX9_put t_values x1 x2 x3 K) : Met l yX9_put wsX9_put ({ frames := 0, cells := 0, slots := 0, locals := 0 }) (PcM G Y tF sz (w_X9_put Y h_t B_t t_modulus t_values) [.ref h_t, .int x1, .int x2, .int x3]) (va_Qv (fun u : (Nat → Int32) => K u) (fun u t => BM G Y (va_A (w_X9_put Y h_t B_t t_modulus t_values) sz) (w_X9_put Y h_t B_t t_modulus u) t) (va_A (w_X9_put Y h_t B_t t_modulus t_values) sz)) 0 0 (va_A (w_X9_put Y h_t B_t t_modulus t_values) sz) := by
  refine Met.ofW (cc := cX9_put) (maxL := 4) (ret := none) (by decide +kernel) rfl ?_
  intro p e s m args below meth c s₁ B hml hv
  obtain ⟨rfl, hsz, hP, hK, hD0, hE⟩ := hv
  have hts := atoms_spec (ws := wsX9_put) B.pre
  have hown : s.vm.findClass RX9 = some m.cls := findClass_of_methodNamed B.named
  have hlocks := B.notSynchronized
  subst hsz
  have hD := hD0.self (sz := s.heap.size)
  exact wk_X9_put h_t B_t t_modulus t_values x1 x2 x3 B.exec B.bytes hml hown hts hK hE (fun q h => Or.inr h) (Nat.le_refl _) (Nat.le_refl _) (fun t_values H locs ls pc hP hD hS hk hd => W.vret B.exec B.bytes B.returns (fun t ht hW => ⟨⟨t_values, rfl, hk, by rw [ht]; exact hP, va_K.moved hW.alike hK, hD⟩, hS.F ht⟩) hS.2.2 hd) hP hD h

abbrev w_X9_firstOpenTriple (Y : Nat → ClassId) (h_t : Nat) (h_p1 : Nat) (B_t : Nat → Nat) (B_p1 : Nat → Nat) (t_modulus : Int32) (t_values : Nat → Int32) (p1_n : Int32) (p1_cells : Nat → Int32) : va_W := [(h_t, .inr (8, [.ref (B_t 0), .int t_modulus])), ((B_t 0), .inl (Y 0, 64, .inl t_values)), (h_p1, .inr (6, [.ref (B_p1 0), .int p1_n])), ((B_p1 0), .inl (Y 0, 64, .inl p1_cells))]

set_option maxHeartbeats 4000000 in
set_option maxRecDepth 100000 in
theorem wk_X9_firstOpenTriple {p : Program} {l : Launch} {e : Env} {R : Room} {s : State} {m : MethodId} {args : Array Value} {below : List Frame} {meth : Method} {c : Code} {Q : State → Prop} {G : va_G} {Y : Nat → ClassId} {tF : Nat} {A : Nat → Prop} (h_t : Nat) (h_p1 : Nat) (B_t : Nat → Nat) (B_p1 : Nat → Nat) (t_modulus : Int32) (t_values : Nat → Int32) (p1_n : Int32) (p1_cells : Nat → Int32) {K : Int32 → Prop} (hx : p.tables.exec = Jvm.exec) (hb : c.code = cX9_firstOpenTriple) (hml : c.maxLocals = 7) (hown : s.vm.findClass RX9 = some m.cls) (hts : ∀ w ∈ wsX9_firstOpenTriple, w.before args s = true) (hK : va_K G vwCl (tyL Y) s) (hE : Ev A tF s) (hA : ∀ q, s.heap.size ≤ q → A q) (hRf : 1 ≤ R.frames) (hRl : 22 ≤ R.locals) (hret : ∀ (r : Int32)  (H : Heap) (locs : List Loc) (ls : Array Slot) (pc : Nat), va_P G vwCl (w_X9_firstOpenTriple Y h_t h_p1 B_t B_p1 t_modulus t_values p1_n p1_cells) H → va_D A (w_X9_firstOpenTriple Y h_t h_p1 B_t B_p1 t_modulus t_values p1_n p1_cells) → va_S A s.heap H locs → K r → decode cX9_firstOpenTriple pc = .ok (.ireturn, 1) → W p l e R s m args below meth c H locs 0 0 Q (F0 m pc ls [.int r])) (hP : va_P G vwCl (w_X9_firstOpenTriple Y h_t h_p1 B_t B_p1 t_modulus t_values p1_n p1_cells) s.heap) (hD : va_D A (w_X9_firstOpenTriple Y h_t h_p1 B_t B_p1 t_modulus t_values p1_n p1_cells)) (h : pX9_firstOpenTriple t_modulus t_values p1_n p1_cells K) : W p l e R s m args below meth c s.heap [] 0 0 Q (entryFrame m ([.ref h_t, .ref h_p1] : List Value).toArray 7) := by
  have inX7 : ∀ w ∈ u_ws RX7 TX7 2, w ∈ wsX9_firstOpenTriple := by decide +kernel
  have inX9 : ∀ w ∈ u_ws RX9 TX9 2, w ∈ wsX9_firstOpenTriple := by decide +kernel
  have hf15 := hts (.fieldLink RX9 15 "RackBench$Twist" "modulus" "I") (by decide +kernel)
  have hl := lv_entry ([.ref h_t, .ref h_p1]) (n := 7) (Nat.le_of_ble_eq_true rfl)
  rw [lg_entry_eq]
  generalize (lg_sl ([.ref h_t, .ref h_p1]) ++ List.replicate (7 - (lg_sl ([.ref h_t, .ref h_p1])).length) Slot.unset).toArray = ls at hl ⊢
  have hl : lv_has ls 7 [(0, .ref h_t), (1, .ref h_p1)] := hl
  generalize hH0 : s.heap = H at hP ⊢
  have hS : va_S A s.heap H [] := by rw [← hH0]; exact va_S.rf
  clear hH0
  generalize ([] : List Loc) = locs at hS ⊢
  refine lv_iconst (v := 0) hx hb dX9_firstOpenTriple_0 (by decide) ?_
  refine lv_istore_n (lv' := [(2, .int (0 : Int32)), (0, .ref h_t), (1, .ref h_p1)]) hx hb dX9_firstOpenTriple_1 rfl hl (by decide) rfl (fun ls hl => ?_)
  obtain ⟨I2, m2, hI2, hB2⟩ := h
  have L2 : ∀  (I2 : Int32 → Prop) (m2 : Int32 → Nat), (∀ (x2 : Int32), I2 x2 → pX9_firstOpenTriple_2 t_modulus t_values p1_n p1_cells K x2 (fun x2' => I2 x2' ∧ m2 x2' < m2 x2)) → ∀ (n : Nat) (x2 : Int32) (H : Heap) (locs : List Loc) (ls : Array Slot), I2 x2 → m2 x2 < n → va_P G vwCl (w_X9_firstOpenTriple Y h_t h_p1 B_t B_p1 t_modulus t_values p1_n p1_cells) H → va_D A (w_X9_firstOpenTriple Y h_t h_p1 B_t B_p1 t_modulus t_values p1_n p1_cells) → va_S A s.heap H locs → lv_has ls 7 [(0, .ref h_t), (1, .ref h_p1), (2, .int x2)] → W p l e R s m args below meth c H locs 0 0 Q (F0 m 2 ls []) := by
    intro  I2 m2 hB2 n
    induction n with
    | zero => intro x2 H locs ls _ hm; exact absurd hm (Nat.not_lt_zero _)
    | succ n ih =>
      intro x2 H locs ls hI hm hP hD hS hl
      obtain ⟨R2, h, rec2⟩ : ∃ R2 : Int32 → Prop, pX9_firstOpenTriple_2 t_modulus t_values p1_n p1_cells K x2 R2 ∧ ∀ (x2 : Int32) (H : Heap) (locs : List Loc) (ls : Array Slot), R2 x2 → va_P G vwCl (w_X9_firstOpenTriple Y h_t h_p1 B_t B_p1 t_modulus t_values p1_n p1_cells) H → va_D A (w_X9_firstOpenTriple Y h_t h_p1 B_t B_p1 t_modulus t_values p1_n p1_cells) → va_S A s.heap H locs → lv_has ls 7 [(0, .ref h_t), (1, .ref h_p1), (2, .int x2)] → W p l e R s m args below meth c H locs 0 0 Q (F0 m 2 ls []) := ⟨_, hB2 x2 hI, fun x2 H locs ls hh hP hD hS hl => ih x2 H locs ls hh.1 (Nat.lt_of_lt_of_le hh.2 (Nat.le_of_lt_succ hm)) hP hD hS hl⟩
      refine lv_iload_n hx hb dX9_firstOpenTriple_2 rfl (lv_at hl 2 rfl) ?_
      refine lv_aload_n hx hb dX9_firstOpenTriple_3 rfl (lv_at hl 1 rfl) ?_
      refine va_getN (D := G) (ci := 6) (v := .int p1_n) (C := RX7) (T := TX7) (N := 2) hx hb hts inX7 hown hK hP 2 rfl rfl 1 (by decide) (hE.nest args 14 _ rfl) (fun _ h9 => h9) rfl dX9_firstOpenTriple_4 ?_
      obtain ⟨ht, hf⟩ := h
      refine lv_icmp_ge (tgt := 125) hx hb dX9_firstOpenTriple_7 (by decide) (fun c9 => ?_) (fun c9 => ?_)
      · have h := ht c9
        refine lv_iconst (v := -1) hx hb dX9_firstOpenTriple_125 (by decide) ?_
        exact hret (-1 : Int32)  H locs ls _ hP hD hS h dX9_firstOpenTriple_126
      · have h := hf c9
        refine lv_iconst (v := 0) hx hb dX9_firstOpenTriple_10 (by decide) ?_
        refine lv_istore_n (lv' := [(3, .int (0 : Int32)), (0, .ref h_t), (1, .ref h_p1), (2, .int x2)]) hx hb dX9_firstOpenTriple_11 rfl hl (by decide) rfl (fun ls hl => ?_)
        obtain ⟨I12, m12, hI12, hB12⟩ := h
        have L12 : ∀ (x2 : Int32) (I12 : Int32 → Prop) (m12 : Int32 → Nat), (∀ (x3 : Int32), I12 x3 → pX9_firstOpenTriple_12 t_modulus t_values p1_n p1_cells R2 K x2 x3 (fun x3' => I12 x3' ∧ m12 x3' < m12 x3)) → ∀ (n : Nat) (x3 : Int32) (H : Heap) (locs : List Loc) (ls : Array Slot), I12 x3 → m12 x3 < n → va_P G vwCl (w_X9_firstOpenTriple Y h_t h_p1 B_t B_p1 t_modulus t_values p1_n p1_cells) H → va_D A (w_X9_firstOpenTriple Y h_t h_p1 B_t B_p1 t_modulus t_values p1_n p1_cells) → va_S A s.heap H locs → lv_has ls 7 [(0, .ref h_t), (1, .ref h_p1), (2, .int x2), (3, .int x3)] → W p l e R s m args below meth c H locs 0 0 Q (F0 m 12 ls []) := by
          intro x2 I12 m12 hB12 n
          induction n with
          | zero => intro x3 H locs ls _ hm; exact absurd hm (Nat.not_lt_zero _)
          | succ n ih =>
            intro x3 H locs ls hI hm hP hD hS hl
            obtain ⟨R12, h, rec12⟩ : ∃ R12 : Int32 → Prop, pX9_firstOpenTriple_12 t_modulus t_values p1_n p1_cells R2 K x2 x3 R12 ∧ ∀ (x3 : Int32) (H : Heap) (locs : List Loc) (ls : Array Slot), R12 x3 → va_P G vwCl (w_X9_firstOpenTriple Y h_t h_p1 B_t B_p1 t_modulus t_values p1_n p1_cells) H → va_D A (w_X9_firstOpenTriple Y h_t h_p1 B_t B_p1 t_modulus t_values p1_n p1_cells) → va_S A s.heap H locs → lv_has ls 7 [(0, .ref h_t), (1, .ref h_p1), (2, .int x2), (3, .int x3)] → W p l e R s m args below meth c H locs 0 0 Q (F0 m 12 ls []) := ⟨_, hB12 x3 hI, fun x3 H locs ls hh hP hD hS hl => ih x3 H locs ls hh.1 (Nat.lt_of_lt_of_le hh.2 (Nat.le_of_lt_succ hm)) hP hD hS hl⟩
            refine lv_iload_n hx hb dX9_firstOpenTriple_12 rfl (lv_at hl 3 rfl) ?_
            refine lv_aload_n hx hb dX9_firstOpenTriple_13 rfl (lv_at hl 1 rfl) ?_
            refine va_getN (D := G) (ci := 6) (v := .int p1_n) (C := RX7) (T := TX7) (N := 2) hx hb hts inX7 hown hK hP 2 rfl rfl 1 (by decide) (hE.nest args 14 _ rfl) (fun _ h9 => h9) rfl dX9_firstOpenTriple_14 ?_
            obtain ⟨ht, hf⟩ := h
            refine lv_icmp_ge (tgt := 119) hx hb dX9_firstOpenTriple_17 (by decide) (fun c9 => ?_) (fun c9 => ?_)
            · have h := ht c9
              refine lv_iinc (v := (x2 + 1)) (lv' := [(2, .int (x2 + 1)), (0, .ref h_t), (1, .ref h_p1), (3, .int x3)]) hx hb dX9_firstOpenTriple_119 hl (k := 2) rfl rfl (by decide) rfl (fun ls hl => ?_)
              refine lv_goto (tgt := 2) hx hb dX9_firstOpenTriple_122 (by decide) ?_
              exact rec2 (x2 + 1) H locs ls h hP hD hS (lv_sub hl [1, 2, 0] rfl)
            · have h := hf c9
              refine lv_iconst (v := 0) hx hb dX9_firstOpenTriple_20 (by decide) ?_
              refine lv_istore (lv' := [(4, .int (0 : Int32)), (0, .ref h_t), (1, .ref h_p1), (2, .int x2), (3, .int x3)]) hx hb dX9_firstOpenTriple_21 hl (by decide) rfl (fun ls hl => ?_)
              obtain ⟨I23, m23, hI23, hB23⟩ := h
              have L23 : ∀ (x3 : Int32) (I23 : Int32 → Prop) (m23 : Int32 → Nat), (∀ (x4 : Int32), I23 x4 → pX9_firstOpenTriple_23 t_modulus t_values p1_n p1_cells R2 R12 K x2 x3 x4 (fun x4' => I23 x4' ∧ m23 x4' < m23 x4)) → ∀ (n : Nat) (x4 : Int32) (H : Heap) (locs : List Loc) (ls : Array Slot), I23 x4 → m23 x4 < n → va_P G vwCl (w_X9_firstOpenTriple Y h_t h_p1 B_t B_p1 t_modulus t_values p1_n p1_cells) H → va_D A (w_X9_firstOpenTriple Y h_t h_p1 B_t B_p1 t_modulus t_values p1_n p1_cells) → va_S A s.heap H locs → lv_has ls 7 [(0, .ref h_t), (1, .ref h_p1), (2, .int x2), (3, .int x3), (4, .int x4)] → W p l e R s m args below meth c H locs 0 0 Q (F0 m 23 ls []) := by
                intro x3 I23 m23 hB23 n
                induction n with
                | zero => intro x4 H locs ls _ hm; exact absurd hm (Nat.not_lt_zero _)
                | succ n ih =>
                  intro x4 H locs ls hI hm hP hD hS hl
                  obtain ⟨R23, h, rec23⟩ : ∃ R23 : Int32 → Prop, pX9_firstOpenTriple_23 t_modulus t_values p1_n p1_cells R2 R12 K x2 x3 x4 R23 ∧ ∀ (x4 : Int32) (H : Heap) (locs : List Loc) (ls : Array Slot), R23 x4 → va_P G vwCl (w_X9_firstOpenTriple Y h_t h_p1 B_t B_p1 t_modulus t_values p1_n p1_cells) H → va_D A (w_X9_firstOpenTriple Y h_t h_p1 B_t B_p1 t_modulus t_values p1_n p1_cells) → va_S A s.heap H locs → lv_has ls 7 [(0, .ref h_t), (1, .ref h_p1), (2, .int x2), (3, .int x3), (4, .int x4)] → W p l e R s m args below meth c H locs 0 0 Q (F0 m 23 ls []) := ⟨_, hB23 x4 hI, fun x4 H locs ls hh hP hD hS hl => ih x4 H locs ls hh.1 (Nat.lt_of_lt_of_le hh.2 (Nat.le_of_lt_succ hm)) hP hD hS hl⟩
                  refine lv_iload hx hb dX9_firstOpenTriple_23 (lv_at hl 4 rfl) ?_
                  refine lv_aload_n hx hb dX9_firstOpenTriple_25 rfl (lv_at hl 1 rfl) ?_
                  refine va_getN (D := G) (ci := 6) (v := .int p1_n) (C := RX7) (T := TX7) (N := 2) hx hb hts inX7 hown hK hP 2 rfl rfl 1 (by decide) (hE.nest args 14 _ rfl) (fun _ h9 => h9) rfl dX9_firstOpenTriple_26 ?_
                  obtain ⟨ht, hf⟩ := h
                  refine lv_icmp_ge (tgt := 113) hx hb dX9_firstOpenTriple_29 (by decide) (fun c9 => ?_) (fun c9 => ?_)
                  · have h := ht c9
                    refine lv_iinc (v := (x3 + 1)) (lv' := [(3, .int (x3 + 1)), (0, .ref h_t), (1, .ref h_p1), (2, .int x2), (4, .int x4)]) hx hb dX9_firstOpenTriple_113 hl (k := 3) rfl rfl (by decide) rfl (fun ls hl => ?_)
                    refine lv_goto (tgt := 12) hx hb dX9_firstOpenTriple_116 (by decide) ?_
                    exact rec12 (x3 + 1) H locs ls h hP hD hS (lv_sub hl [1, 2, 3, 0] rfl)
                  · have h := hf c9
                    refine lv_aload_n hx hb dX9_firstOpenTriple_32 rfl (lv_at hl 0 rfl) ?_
                    refine lv_iload_n hx hb dX9_firstOpenTriple_33 rfl (lv_at hl 3 rfl) ?_
                    refine lv_iload hx hb dX9_firstOpenTriple_34 (lv_at hl 4 rfl) ?_
                    refine mc_iV ⟨hx, hb, hml, hown, hts⟩ hK hE hA hP hD hS (c_X9_value l G Y tF H.size h_t B_t t_modulus t_values x3 x4 h) (cwV 2 hts gX9_firstOpenTriple_X9_value rfl rfl rfl (by decide +kernel) ⟨Nat.le_trans (by decide) hRf, Nat.le_trans (by decide) hRl⟩) (fun u => (w_X9_firstOpenTriple Y h_t h_p1 B_t B_p1 t_modulus t_values p1_n p1_cells)) [0, 1] [2, 3] [2, 3, 0, 1] rfl rfl rfl rfl (by decide) (fun _ => rfl) rfl 0 8 rfl rfl rfl rfl hl.1 rfl (Nat.le_of_ble_eq_true rfl) dX9_firstOpenTriple_36 (fun r36 u H locs h hP hD hS => ?_)
                    try dsimp only at h
                    have hP : va_P G vwCl (w_X9_firstOpenTriple Y h_t h_p1 B_t B_p1 t_modulus t_values p1_n p1_cells) H := hP
                    have hD : va_D A (w_X9_firstOpenTriple Y h_t h_p1 B_t B_p1 t_modulus t_values p1_n p1_cells) := hD
                    refine lv_aload_n hx hb dX9_firstOpenTriple_39 rfl (lv_at hl 0 rfl) ?_
                    refine lv_iload_n hx hb dX9_firstOpenTriple_40 rfl (lv_at hl 2 rfl) ?_
                    refine lv_aload_n hx hb dX9_firstOpenTriple_41 rfl (lv_at hl 1 rfl) ?_
                    refine lv_iload_n hx hb dX9_firstOpenTriple_42 rfl (lv_at hl 3 rfl) ?_
                    refine lv_iload hx hb dX9_firstOpenTriple_43 (lv_at hl 4 rfl) ?_
                    refine mc_iV ⟨hx, hb, hml, hown, hts⟩ hK hE hA hP hD hS (c_X7_turned l G Y tF H.size h_p1 B_p1 p1_n p1_cells x3 x4 h) (cwV 2 hts gX9_firstOpenTriple_X7_turned rfl rfl rfl (by decide +kernel) ⟨Nat.le_trans (by decide) hRf, Nat.le_trans (by decide) hRl⟩) (fun u => (w_X9_firstOpenTriple Y h_t h_p1 B_t B_p1 t_modulus t_values p1_n p1_cells)) [2, 3] [0, 1] [0, 1, 2, 3] rfl rfl rfl rfl (by decide) (fun _ => rfl) rfl 2 6 rfl rfl rfl rfl hl.1 rfl (Nat.le_of_ble_eq_true rfl) dX9_firstOpenTriple_45 (fun r45 u H locs h hP hD hS => ?_)
                    try dsimp only at h
                    have hP : va_P G vwCl (w_X9_firstOpenTriple Y h_t h_p1 B_t B_p1 t_modulus t_values p1_n p1_cells) H := hP
                    have hD : va_D A (w_X9_firstOpenTriple Y h_t h_p1 B_t B_p1 t_modulus t_values p1_n p1_cells) := hD
                    refine mc_iV ⟨hx, hb, hml, hown, hts⟩ hK hE hA hP hD hS (c_X9_value l G Y tF H.size h_t B_t t_modulus t_values x2 r45 h) (cwV 2 hts gX9_firstOpenTriple_X9_value rfl rfl rfl (by decide +kernel) ⟨Nat.le_trans (by decide) hRf, Nat.le_trans (by decide) hRl⟩) (fun u => (w_X9_firstOpenTriple Y h_t h_p1 B_t B_p1 t_modulus t_values p1_n p1_cells)) [0, 1] [2, 3] [2, 3, 0, 1] rfl rfl rfl rfl (by decide) (fun _ => rfl) rfl 0 8 rfl rfl rfl rfl hl.1 rfl (Nat.le_of_ble_eq_true rfl) dX9_firstOpenTriple_48 (fun r48 u H locs h hP hD hS => ?_)
                    try dsimp only at h
                    have hP : va_P G vwCl (w_X9_firstOpenTriple Y h_t h_p1 B_t B_p1 t_modulus t_values p1_n p1_cells) H := hP
                    have hD : va_D A (w_X9_firstOpenTriple Y h_t h_p1 B_t B_p1 t_modulus t_values p1_n p1_cells) := hD
                    refine lv_iadd hx hb dX9_firstOpenTriple_51 ?_
                    refine lv_istore (lv' := [(5, .int (r36 + r48)), (0, .ref h_t), (1, .ref h_p1), (2, .int x2), (3, .int x3), (4, .int x4)]) hx hb dX9_firstOpenTriple_52 hl (by decide) rfl (fun ls hl => ?_)
                    refine lv_aload_n hx hb dX9_firstOpenTriple_54 rfl (lv_at hl 1 rfl) ?_
                    refine lv_iload_n hx hb dX9_firstOpenTriple_55 rfl (lv_at hl 3 rfl) ?_
                    refine lv_iload hx hb dX9_firstOpenTriple_56 (lv_at hl 5 rfl) ?_
                    refine mc_iV ⟨hx, hb, hml, hown, hts⟩ hK hE hA hP hD hS (c_X9_value l G Y tF H.size h_t B_t t_modulus t_values x2 x4 h) (cwV 2 hts gX9_firstOpenTriple_X9_value rfl rfl rfl (by decide +kernel) ⟨Nat.le_trans (by decide) hRf, Nat.le_trans (by decide) hRl⟩) (fun u => (w_X9_firstOpenTriple Y h_t h_p1 B_t B_p1 t_modulus t_values p1_n p1_cells)) [0, 1] [2, 3] [2, 3, 0, 1] rfl rfl rfl rfl (by decide) (fun _ => rfl) rfl 0 8 rfl rfl rfl rfl hl.1 rfl (Nat.le_of_ble_eq_true rfl) dX9_firstOpenTriple_58 (fun r58 u H locs h hP hD hS => ?_)
                    try dsimp only at h
                    have hP : va_P G vwCl (w_X9_firstOpenTriple Y h_t h_p1 B_t B_p1 t_modulus t_values p1_n p1_cells) H := hP
                    have hD : va_D A (w_X9_firstOpenTriple Y h_t h_p1 B_t B_p1 t_modulus t_values p1_n p1_cells) := hD
                    refine lv_aload_n hx hb dX9_firstOpenTriple_61 rfl (lv_at hl 1 rfl) ?_
                    refine lv_aload_n hx hb dX9_firstOpenTriple_62 rfl (lv_at hl 2 rfl) ?_
                    refine lv_iload_n hx hb dX9_firstOpenTriple_63 rfl (lv_at hl 3 rfl) ?_
                    refine lv_iload_n hx hb dX9_firstOpenTriple_64 rfl (lv_at hl 4 rfl) ?_
                    refine mc_iV ⟨hx, hb, hml, hown, hts⟩ hK hE hA hP hD hS (c_X7_turned l G Y tF H.size h_p1 B_p1 p1_n p1_cells x2 x3 h) (cwV 2 hts gX9_firstOpenTriple_X7_turned rfl rfl rfl (by decide +kernel) ⟨Nat.le_trans (by decide) hRf, Nat.le_trans (by decide) hRl⟩) (fun u => (w_X9_firstOpenTriple Y h_t h_p1 B_t B_p1 t_modulus t_values p1_n p1_cells)) [2, 3] [0, 1] [0, 1, 2, 3] rfl rfl rfl rfl (by decide) (fun _ => rfl) rfl 2 6 rfl rfl rfl rfl hl.1 rfl (Nat.le_of_ble_eq_true rfl) dX9_firstOpenTriple_65 (fun r65 u H locs h hP hD hS => ?_)
                    try dsimp only at h
                    have hP : va_P G vwCl (w_X9_firstOpenTriple Y h_t h_p1 B_t B_p1 t_modulus t_values p1_n p1_cells) H := hP
                    have hD : va_D A (w_X9_firstOpenTriple Y h_t h_p1 B_t B_p1 t_modulus t_values p1_n p1_cells) := hD
                    refine lv_aload_n hx hb dX9_firstOpenTriple_68 rfl (lv_at hl 2 rfl) ?_
                    refine lv_iload_n hx hb dX9_firstOpenTriple_69 rfl (lv_at hl 3 rfl) ?_
                    refine lv_iload hx hb dX9_firstOpenTriple_70 (lv_at hl 5 rfl) ?_
                    refine mc_iV ⟨hx, hb, hml, hown, hts⟩ hK hE hA hP hD hS (c_X7_turned l G Y tF H.size h_p1 B_p1 p1_n p1_cells x2 x4 h) (cwV 2 hts gX9_firstOpenTriple_X7_turned rfl rfl rfl (by decide +kernel) ⟨Nat.le_trans (by decide) hRf, Nat.le_trans (by decide) hRl⟩) (fun u => (w_X9_firstOpenTriple Y h_t h_p1 B_t B_p1 t_modulus t_values p1_n p1_cells)) [2, 3] [0, 1] [0, 1, 2, 3] rfl rfl rfl rfl (by decide) (fun _ => rfl) rfl 2 6 rfl rfl rfl rfl hl.1 rfl (Nat.le_of_ble_eq_true rfl) dX9_firstOpenTriple_72 (fun r72 u H locs h hP hD hS => ?_)
                    try dsimp only at h
                    have hP : va_P G vwCl (w_X9_firstOpenTriple Y h_t h_p1 B_t B_p1 t_modulus t_values p1_n p1_cells) H := hP
                    have hD : va_D A (w_X9_firstOpenTriple Y h_t h_p1 B_t B_p1 t_modulus t_values p1_n p1_cells) := hD
                    refine mc_iV ⟨hx, hb, hml, hown, hts⟩ hK hE hA hP hD hS (c_X9_value l G Y tF H.size h_t B_t t_modulus t_values r65 r72 h) (cwV 2 hts gX9_firstOpenTriple_X9_value rfl rfl rfl (by decide +kernel) ⟨Nat.le_trans (by decide) hRf, Nat.le_trans (by decide) hRl⟩) (fun u => (w_X9_firstOpenTriple Y h_t h_p1 B_t B_p1 t_modulus t_values p1_n p1_cells)) [0, 1] [2, 3] [2, 3, 0, 1] rfl rfl rfl rfl (by decide) (fun _ => rfl) rfl 0 8 rfl rfl rfl rfl hl.1 rfl (Nat.le_of_ble_eq_true rfl) dX9_firstOpenTriple_75 (fun r75 u H locs h hP hD hS => ?_)
                    try dsimp only at h
                    have hP : va_P G vwCl (w_X9_firstOpenTriple Y h_t h_p1 B_t B_p1 t_modulus t_values p1_n p1_cells) H := hP
                    have hD : va_D A (w_X9_firstOpenTriple Y h_t h_p1 B_t B_p1 t_modulus t_values p1_n p1_cells) := hD
                    refine lv_iadd hx hb dX9_firstOpenTriple_78 ?_
                    refine lv_istore (lv' := [(6, .int (r58 + r75)), (5, .int (r36 + r48)), (0, .ref h_t), (1, .ref h_p1), (2, .int x2), (3, .int x3), (4, .int x4)]) hx hb dX9_firstOpenTriple_79 hl (by decide) rfl (fun ls hl => ?_)
                    refine lv_iload hx hb dX9_firstOpenTriple_81 (lv_at hl 1 rfl) ?_
                    refine lv_iload hx hb dX9_firstOpenTriple_83 (lv_at hl 0 rfl) ?_
                    refine lv_isub hx hb dX9_firstOpenTriple_85 ?_
                    refine lv_aload_n hx hb dX9_firstOpenTriple_86 rfl (lv_at hl 2 rfl) ?_
                    refine va_get (D := G) (ci := 8) (v := .int t_modulus) (C := RX9) (T := TX9) (N := 2) hx hb hts inX9 hown hK hP 0 rfl rfl 1 (by decide) hf15 (fun _ h9 => h9) rfl dX9_firstOpenTriple_87 ?_
                    obtain ⟨hne, h⟩ := h
                    refine lv_irem hx hb dX9_firstOpenTriple_90 hne ?_
                    obtain ⟨ht, hf⟩ := h
                    refine lv_if_eq (tgt := 107) hx hb dX9_firstOpenTriple_91 (by decide) (fun c9 => ?_) (fun c9 => ?_)
                    · have h := ht c9
                      refine lv_iinc (v := (x4 + 1)) (lv' := [(4, .int (x4 + 1)), (6, .int (r58 + r75)), (5, .int (r36 + r48)), (0, .ref h_t), (1, .ref h_p1), (2, .int x2), (3, .int x3)]) hx hb dX9_firstOpenTriple_107 hl (k := 6) rfl rfl (by decide) rfl (fun ls hl => ?_)
                      refine lv_goto (tgt := 23) hx hb dX9_firstOpenTriple_110 (by decide) ?_
                      exact rec23 (x4 + 1) H locs ls h hP hD hS (lv_sub hl [3, 4, 5, 6, 0] rfl)
                    · have h := hf c9
                      refine lv_iload_n hx hb dX9_firstOpenTriple_94 rfl (lv_at hl 4 rfl) ?_
                      refine lv_bipush (v := 8) hx hb dX9_firstOpenTriple_95 (by decide) ?_
                      refine lv_imul hx hb dX9_firstOpenTriple_97 ?_
                      refine lv_iload_n hx hb dX9_firstOpenTriple_98 rfl (lv_at hl 5 rfl) ?_
                      refine lv_iadd hx hb dX9_firstOpenTriple_99 ?_
                      refine lv_bipush (v := 8) hx hb dX9_firstOpenTriple_100 (by decide) ?_
                      refine lv_imul hx hb dX9_firstOpenTriple_102 ?_
                      refine lv_iload hx hb dX9_firstOpenTriple_103 (lv_at hl 6 rfl) ?_
                      refine lv_iadd hx hb dX9_firstOpenTriple_105 ?_
                      exact hret ((((x2 * (8 : Int32)) + x3) * (8 : Int32)) + x4)  H locs ls _ hP hD hS h dX9_firstOpenTriple_106
              exact L23 x3 I23 m23 hB23 _ (0 : Int32) H locs ls hI23 (Nat.lt_succ_self _) hP hD hS (lv_sub hl [1, 2, 3, 4, 0] rfl)
        exact L12 x2 I12 m12 hB12 _ (0 : Int32) H locs ls hI12 (Nat.lt_succ_self _) hP hD hS (lv_sub hl [1, 2, 3, 0] rfl)
  exact L2  I2 m2 hB2 _ (0 : Int32) H locs ls hI2 (Nat.lt_succ_self _) hP hD hS (lv_sub hl [1, 2, 0] rfl)

set_option maxHeartbeats 4000000 in
set_option maxRecDepth 100000 in
theorem c_X9_firstOpenTriple (l : Launch) (G : va_G) (Y : Nat → ClassId) (tF sz : Nat) (h_t : Nat) (h_p1 : Nat) (B_t : Nat → Nat) (B_p1 : Nat → Nat) (t_modulus : Int32) (t_values : Nat → Int32) (p1_n : Int32) (p1_cells : Nat → Int32) {K : Int32 → Prop} (h : pX9_firstOpenTriple t_modulus t_values p1_n p1_cells K) : Met l yX9_firstOpenTriple wsX9_firstOpenTriple ({ frames := 1, cells := 0, slots := 0, locals := 22 }) (PcM G Y tF sz (w_X9_firstOpenTriple Y h_t h_p1 B_t B_p1 t_modulus t_values p1_n p1_cells) [.ref h_t, .ref h_p1]) (va_Qi (fun (r : Int32) (u : Unit) => K r ) (fun u t => BM G Y (va_A (w_X9_firstOpenTriple Y h_t h_p1 B_t B_p1 t_modulus t_values p1_n p1_cells) sz) (w_X9_firstOpenTriple Y h_t h_p1 B_t B_p1 t_modulus t_values p1_n p1_cells) t) (va_A (w_X9_firstOpenTriple Y h_t h_p1 B_t B_p1 t_modulus t_values p1_n p1_cells) sz)) 0 0 (va_A (w_X9_firstOpenTriple Y h_t h_p1 B_t B_p1 t_modulus t_values p1_n p1_cells) sz) := by
  refine Met.ofW (cc := cX9_firstOpenTriple) (maxL := 7) (ret := (some .int)) (by decide +kernel) rfl ?_
  intro p e s m args below meth c s₁ B hml hv
  obtain ⟨rfl, hsz, hP, hK, hD0, hE⟩ := hv
  have hts := atoms_spec (ws := wsX9_firstOpenTriple) B.pre
  have hown : s.vm.findClass RX9 = some m.cls := findClass_of_methodNamed B.named
  have hlocks := B.notSynchronized
  subst hsz
  have hD := hD0.self (sz := s.heap.size)
  exact wk_X9_firstOpenTriple h_t h_p1 B_t B_p1 t_modulus t_values p1_n p1_cells B.exec B.bytes hml hown hts hK hE (fun q h => Or.inr h) (Nat.le_refl _) (Nat.le_refl _) (fun r  H locs ls pc hP hD hS hk hd => W.iret (v := r) B.exec B.bytes B.returns (fun t ht hW => ⟨⟨r, (), rfl, hk, by rw [ht]; exact hP, va_K.moved hW.alike hK, hD⟩, hS.F ht⟩) hS.2.2 hd) hP hD h
