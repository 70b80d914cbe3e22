abbrev w_X11_factorial (Y : Nat → ClassId) : va_W := []

set_option maxHeartbeats 20000000 in
set_option maxRecDepth 100000 in
theorem wk_X11_factorial {p : Program} {l : Launch} {e : Env} {R : Room} {s : State} {m : MethodId} {args : Array Value} {below : List Frame} {meth : Method} {c : Code} {Q : State → Prop} {G : va_G} {Y : Nat → ClassId} {tF : Nat} {A : Nat → Prop} (x0 : Int32) {rec : Int32 → (Int32 → Prop) → Prop} {fB lB : Nat} (hRcF : fB + 1 ≤ R.frames) (hRcL : 8 + (1 + 11) + lB ≤ R.locals) (hrec : ∀ (sz : Nat) (x0 : Int32) {K : Int32 → Prop}, rec x0 K → Met l yX11_factorial wsX11_factorial ({ frames := fB, cells := 0, slots := 0, locals := lB }) (PcM G Y tF sz (w_X11_factorial Y) [.int x0]) (va_Qi (fun (r : Int32) (u : Unit) => K r ) (fun u t => BM G Y (va_A (w_X11_factorial Y) sz) (w_X11_factorial Y) t) (va_A (w_X11_factorial Y) sz)) 0 0 (va_A (w_X11_factorial Y) sz)) {K : Int32 → Prop} (hx : p.tables.exec = Jvm.exec) (hb : c.code = cX11_factorial) (hml : c.maxLocals = 1) (hown : s.vm.findClass RX11 = some m.cls) (hts : ∀ w ∈ wsX11_factorial, w.before args s = true) (hK : va_K G vwCl (tyL Y) s) (hE : Ev A tF s) (hA : ∀ q, s.heap.size ≤ q → A q) (hRf : 0 ≤ R.frames) (hRl : 0 ≤ R.locals) (hret : ∀ (r : Int32)  (H : Heap) (locs : List Loc) (ls : Array Slot) (pc : Nat), va_P G vwCl (w_X11_factorial Y) H → va_D A (w_X11_factorial Y) → va_S A s.heap H locs → K r → decode cX11_factorial pc = .ok (.ireturn, 1) → W p l e R s m args below meth c H locs 0 0 Q (F0 m pc ls [.int r])) (hP : va_P G vwCl (w_X11_factorial Y) s.heap) (hD : va_D A (w_X11_factorial Y)) (h : pX11_factorial_b rec x0 K) : W p l e R s m args below meth c s.heap [] 0 0 Q (entryFrame m ([.int x0] : List Value).toArray 1) := by
  have hl := lv_entry ([.int x0]) (n := 1) (Nat.le_of_ble_eq_true rfl)
  rw [lg_entry_eq]
  generalize (lg_sl ([.int x0]) ++ List.replicate (1 - (lg_sl ([.int x0])).length) Slot.unset).toArray = ls at hl ⊢
  have hl : lv_has ls 1 [(0, .int x0)] := hl
  generalize hH0 : s.heap = H at hP ⊢
  have hS : va_S A s.heap H [] := by rw [← hH0]; exact va_S.rf
  clear hH0
  generalize ([] : List Loc) = locs at hS ⊢
  refine lv_iload_n hx hb dX11_factorial_0 rfl (lv_at hl 0 rfl) ?_
  refine lv_iconst (v := 2) hx hb dX11_factorial_1 (by decide) ?_
  obtain ⟨ht, hf⟩ := h
  refine lv_icmp_ge (tgt := 9) hx hb dX11_factorial_2 (by decide) (fun c9 => ?_) (fun c9 => ?_)
  · have h := ht c9
    refine lv_iload_n hx hb dX11_factorial_9 rfl (lv_at hl 0 rfl) ?_
    refine lv_iload_n hx hb dX11_factorial_10 rfl (lv_at hl 0 rfl) ?_
    refine lv_iconst (v := 1) hx hb dX11_factorial_11 (by decide) ?_
    refine lv_isub hx hb dX11_factorial_12 ?_
    refine mc_iS ⟨hx, hb, hml, hown, hts⟩ hK hE hA hP hD hS (hrec H.size (x0 - (1 : Int32)) h) (va_cwS 1 hts gX11_factorial_X11_factorial rfl rfl rfl (by decide +kernel) ⟨hRcF, hRcL⟩) (fun u => (w_X11_factorial Y)) [] [] [] rfl rfl rfl rfl (by decide) (fun _ => rfl) rfl rfl hl.1 rfl (Nat.le_of_ble_eq_true rfl) dX11_factorial_13 (fun r13 u H locs h hP hD hS => ?_)
    try dsimp only at h
    have hP : va_P G vwCl (w_X11_factorial Y) H := hP
    have hD : va_D A (w_X11_factorial Y) := hD
    refine lv_imul hx hb dX11_factorial_16 ?_
    exact hret (x0 * r13)  H locs ls _ hP hD hS h dX11_factorial_17
  · have h := hf c9
    refine lv_iconst (v := 1) hx hb dX11_factorial_5 (by decide) ?_
    refine lv_goto (tgt := 17) hx hb dX11_factorial_6 (by decide) ?_
    exact hret (1 : Int32)  H locs ls _ hP hD hS h dX11_factorial_17

set_option maxHeartbeats 20000000 in
set_option maxRecDepth 100000 in
theorem cs_X11_factorial (l : Launch) (d : Nat) (G : va_G) (Y : Nat → ClassId) (tF sz : Nat) (x0 : Int32) {K : Int32 → Prop} (hrec : ∀ (sz : Nat) (x0 : Int32) {K : Int32 → Prop}, pX11_factorial d x0 K → Met l yX11_factorial wsX11_factorial ({ frames := (0 + d), cells := 0, slots := 0, locals := (0 + d * 20) }) (PcM G Y tF sz (w_X11_factorial Y) [.int x0]) (va_Qi (fun (r : Int32) (u : Unit) => K r ) (fun u t => BM G Y (va_A (w_X11_factorial Y) sz) (w_X11_factorial Y) t) (va_A (w_X11_factorial Y) sz)) 0 0 (va_A (w_X11_factorial Y) sz)) (h : pX11_factorial (d + 1) x0 K) : Met l yX11_factorial wsX11_factorial ({ frames := (0 + (d + 1)), cells := 0, slots := 0, locals := (0 + (d + 1) * 20) }) (PcM G Y tF sz (w_X11_factorial Y) [.int x0]) (va_Qi (fun (r : Int32) (u : Unit) => K r ) (fun u t => BM G Y (va_A (w_X11_factorial Y) sz) (w_X11_factorial Y) t) (va_A (w_X11_factorial Y) sz)) 0 0 (va_A (w_X11_factorial Y) sz) := by
  refine Met.ofW (cc := cX11_factorial) (maxL := 1) (ret := (some .int)) (by decide +kernel) rfl ?_
  intro p e s m args below meth c s₁ B hml hv
  obtain ⟨rfl, hsz, hP, hK, hD0, hE⟩ := hv
  have hts := atoms_spec (ws := wsX11_factorial) B.pre
  have hown : s.vm.findClass RX11 = some m.cls := findClass_of_methodNamed B.named
  have hlocks := B.notSynchronized
  subst hsz
  have hD := hD0.self (sz := s.heap.size)
  exact wk_X11_factorial x0 (rec := pX11_factorial d) (fB := (0 + d)) (lB := (0 + d * 20)) (by show _ ≤ _; simp only [headSpec]; omega) (by show _ ≤ _; simp only [headSpec]; omega) (fun sz x0 _ hh => hrec sz x0 hh) B.exec B.bytes hml hown hts hK hE (fun q h => Or.inr h) (by show _ ≤ _; simp only [headSpec]; omega) (by show _ ≤ _; simp only [headSpec]; omega) (fun r  H locs ls pc hP hD hS hk hd => W.iret (v := r) B.exec B.bytes B.returns (fun t ht hW => ⟨⟨r, (), rfl, hk, by rw [ht]; exact hP, va_K.moved hW.alike hK, hD⟩, hS.F ht⟩) hS.2.2 hd) hP hD h

theorem c_X11_factorial (d : Nat) (l : Launch) (G : va_G) (Y : Nat → ClassId) (tF sz : Nat) (x0 : Int32) {K : Int32 → Prop} (h : pX11_factorial d x0 K) : Met l yX11_factorial wsX11_factorial ({ frames := (0 + d), cells := 0, slots := 0, locals := (0 + d * 20) }) (PcM G Y tF sz (w_X11_factorial Y) [.int x0]) (va_Qi (fun (r : Int32) (u : Unit) => K r ) (fun u t => BM G Y (va_A (w_X11_factorial Y) sz) (w_X11_factorial Y) t) (va_A (w_X11_factorial Y) sz)) 0 0 (va_A (w_X11_factorial Y) sz) := by
  induction d generalizing sz x0 K with
  | zero => exact h.elim
  | succ d ih => exact cs_X11_factorial l d G Y tF sz x0 (fun sz x0 _ hh => ih sz x0 hh) h

abbrev w_X11_permutation (Y : Nat → ClassId) (h_p2 : Nat) (N_p2 : Nat) (p2 : Nat → Int32) : va_W := [(h_p2, .inl (Y 0, N_p2, .inl p2))]

set_option maxHeartbeats 20000000 in
set_option maxRecDepth 100000 in
theorem wk_X11_permutation {p : Program} {l : Launch} {e : Env} {R : Room} {s : State} {m : MethodId} {args : Array Value} {below : List Frame} {meth : Method} {c : Code} {Q : State → Prop} {G : va_G} {Y : Nat → ClassId} {tF : Nat} {A : Nat → Prop} (h_p2 : Nat) (N_p2 : Nat) (p2 : Nat → Int32) (x0 : Int32) (x1 : Int32) {K : (Nat → Int32) → Prop} (hx : p.tables.exec = Jvm.exec) (hb : c.code = cX11_permutation) (hml : c.maxLocals = 9) (hown : s.vm.findClass RX11 = some m.cls) (hts : ∀ w ∈ wsX11_permutation, w.before args s = true) (hK : va_K G vwCl (tyL Y) s) (hE : Ev A tF s) (hA : ∀ q, s.heap.size ≤ q → A q) (hRf : 11 ≤ R.frames) (hRl : 220 ≤ R.locals) (hret : ∀ (p2 : Nat → Int32) (H : Heap) (locs : List Loc) (ls : Array Slot) (pc : Nat), va_P G vwCl (w_X11_permutation Y h_p2 N_p2 p2) H → va_D A (w_X11_permutation Y h_p2 N_p2 p2) → va_S A s.heap H locs → K p2 → decode cX11_permutation pc = .ok (.return_, 1) → W p l e R s m args below meth c H locs 0 0 Q (F0 m pc ls [])) (hP : va_P G vwCl (w_X11_permutation Y h_p2 N_p2 p2) s.heap) (hD : va_D A (w_X11_permutation Y h_p2 N_p2 p2)) (h : pX11_permutation N_p2 p2 x0 x1 K) : W p l e R s m args below meth c s.heap [] 0 0 Q (entryFrame m ([.int x0, .int x1, .ref h_p2] : List Value).toArray 9) := by
  have hl := lv_entry ([.int x0, .int x1, .ref h_p2]) (n := 9) (Nat.le_of_ble_eq_true rfl)
  rw [lg_entry_eq]
  generalize (lg_sl ([.int x0, .int x1, .ref h_p2]) ++ List.replicate (9 - (lg_sl ([.int x0, .int x1, .ref h_p2])).length) Slot.unset).toArray = ls at hl ⊢
  have hl : lv_has ls 9 [(0, .int x0), (1, .int x1), (2, .ref h_p2)] := hl
  generalize hH0 : s.heap = H at hP ⊢
  have hS : va_S A s.heap H [] := by rw [← hH0]; exact va_S.rf
  clear hH0
  generalize ([] : List Loc) = locs at hS ⊢
  refine lv_iload_n hx hb dX11_permutation_0 rfl (lv_at hl 1 rfl) ?_
  refine lv_istore_n (lv' := [(3, .int x1), (0, .int x0), (1, .int x1), (2, .ref h_p2)]) hx hb dX11_permutation_1 rfl hl (by decide) rfl (fun ls hl => ?_)
  refine lv_iconst (v := 0) hx hb dX11_permutation_2 (by decide) ?_
  refine lv_istore (lv' := [(4, .int (0 : Int32)), (3, .int x1), (0, .int x0), (1, .int x1), (2, .ref h_p2)]) hx hb dX11_permutation_3 hl (by decide) rfl (fun ls hl => ?_)
  refine lv_iconst (v := 0) hx hb dX11_permutation_5 (by decide) ?_
  refine lv_istore (lv' := [(5, .int (0 : Int32)), (4, .int (0 : Int32)), (3, .int x1), (0, .int x0), (1, .int x1), (2, .ref h_p2)]) hx hb dX11_permutation_6 hl (by decide) rfl (fun ls hl => ?_)
  obtain ⟨I8, m8, hI8, hB8⟩ := h
  have L8 : ∀ (x0 : Int32) (I8 : Int32 → Int32 → Int32 → (Nat → Int32) → Prop) (m8 : Int32 → Int32 → Int32 → (Nat → Int32) → Nat), (∀ (x3 : Int32) (x4 : Int32) (x5 : Int32) (p2 : Nat → Int32), I8 x3 x4 x5 p2 → pX11_permutation_8 N_p2 K x0 x3 x4 x5 p2 (fun x3' x4' x5' p2' => I8 x3' x4' x5' p2' ∧ m8 x3' x4' x5' p2' < m8 x3 x4 x5 p2)) → ∀ (n : Nat) (x3 : Int32) (x4 : Int32) (x5 : Int32) (p2 : Nat → Int32) (H : Heap) (locs : List Loc) (ls : Array Slot), I8 x3 x4 x5 p2 → m8 x3 x4 x5 p2 < n → va_P G vwCl (w_X11_permutation Y h_p2 N_p2 p2) H → va_D A (w_X11_permutation Y h_p2 N_p2 p2) → va_S A s.heap H locs → lv_has ls 9 [(0, .int x0), (2, .ref h_p2), (3, .int x3), (4, .int x4), (5, .int x5)] → W p l e R s m args below meth c H locs 0 0 Q (F0 m 8 ls []) := by
    intro x0 I8 m8 hB8 n
    induction n with
    | zero => intro x3 x4 x5 p2 H locs ls _ hm; exact absurd hm (Nat.not_lt_zero _)
    | succ n ih =>
      intro x3 x4 x5 p2 H locs ls hI hm hP hD hS hl
      obtain ⟨R8, h, rec8⟩ : ∃ R8 : Int32 → Int32 → Int32 → (Nat → Int32) → Prop, pX11_permutation_8 N_p2 K x0 x3 x4 x5 p2 R8 ∧ ∀ (x3 : Int32) (x4 : Int32) (x5 : Int32) (p2 : Nat → Int32) (H : Heap) (locs : List Loc) (ls : Array Slot), R8 x3 x4 x5 p2 → va_P G vwCl (w_X11_permutation Y h_p2 N_p2 p2) H → va_D A (w_X11_permutation Y h_p2 N_p2 p2) → va_S A s.heap H locs → lv_has ls 9 [(0, .int x0), (2, .ref h_p2), (3, .int x3), (4, .int x4), (5, .int x5)] → W p l e R s m args below meth c H locs 0 0 Q (F0 m 8 ls []) := ⟨_, hB8 x3 x4 x5 p2 hI, fun x3 x4 x5 p2 H locs ls hh hP hD hS hl => ih x3 x4 x5 p2 H locs ls hh.1 (Nat.lt_of_lt_of_le hh.2 (Nat.le_of_lt_succ hm)) hP hD hS hl⟩
      refine lv_iload hx hb dX11_permutation_8 (lv_at hl 4 rfl) ?_
      refine lv_iload_n hx hb dX11_permutation_10 rfl (lv_at hl 0 rfl) ?_
      obtain ⟨ht, hf⟩ := h
      refine lv_icmp_ge (tgt := 103) hx hb dX11_permutation_11 (by decide) (fun c9 => ?_) (fun c9 => ?_)
      · have h := ht c9
        exact hret p2 H locs ls _ hP hD hS h dX11_permutation_103
      · have h := hf c9
        refine lv_iload_n hx hb dX11_permutation_14 rfl (lv_at hl 0 rfl) ?_
        refine lv_iconst (v := 1) hx hb dX11_permutation_15 (by decide) ?_
        refine lv_isub hx hb dX11_permutation_16 ?_
        refine lv_iload hx hb dX11_permutation_17 (lv_at hl 4 rfl) ?_
        refine lv_isub hx hb dX11_permutation_19 ?_
        refine mc_iS ⟨hx, hb, hml, hown, hts⟩ hK hE hA hP hD hS (c_X11_factorial 10 l G Y tF H.size ((x0 - (1 : Int32)) - x5) h) (va_cwS 1 hts gX11_permutation_X11_factorial rfl rfl rfl (by decide +kernel) ⟨Nat.le_trans (by decide) hRf, Nat.le_trans (by decide) hRl⟩) (fun u => (w_X11_permutation Y h_p2 N_p2 p2)) [] [0] [0] rfl rfl rfl rfl (by decide) (fun _ => rfl) rfl rfl hl.1 rfl (Nat.le_of_ble_eq_true rfl) dX11_permutation_20 (fun r20 u H locs h hP hD hS => ?_)
        try dsimp only at h
        have hP : va_P G vwCl (w_X11_permutation Y h_p2 N_p2 p2) H := hP
        have hD : va_D A (w_X11_permutation Y h_p2 N_p2 p2) := hD
        refine lv_istore (lv' := [(6, .int r20), (0, .int x0), (2, .ref h_p2), (3, .int x3), (4, .int x4), (5, .int x5)]) hx hb dX11_permutation_23 hl (by decide) rfl (fun ls hl => ?_)
        refine lv_iload_n hx hb dX11_permutation_25 rfl (lv_at hl 3 rfl) ?_
        refine lv_iload hx hb dX11_permutation_26 (lv_at hl 0 rfl) ?_
        obtain ⟨hne, h⟩ := h
        refine lv_idiv hx hb dX11_permutation_28 hne ?_
        refine lv_istore (lv' := [(7, .int (x3 / r20)), (6, .int r20), (0, .int x0), (2, .ref h_p2), (3, .int x3), (4, .int x4), (5, .int x5)]) hx hb dX11_permutation_29 hl (by decide) rfl (fun ls hl => ?_)
        refine lv_iload_n hx hb dX11_permutation_31 rfl (lv_at hl 4 rfl) ?_
        refine lv_iload hx hb dX11_permutation_32 (lv_at hl 1 rfl) ?_
        obtain ⟨hne, h⟩ := h
        refine lv_irem hx hb dX11_permutation_34 hne ?_
        refine lv_istore_n (lv' := [(3, .int (x3 - x3 / r20 * r20)), (7, .int (x3 / r20)), (6, .int r20), (0, .int x0), (2, .ref h_p2), (4, .int x4), (5, .int x5)]) hx hb dX11_permutation_35 rfl hl (by decide) rfl (fun ls hl => ?_)
        refine lv_iconst (v := 0) hx hb dX11_permutation_36 (by decide) ?_
        refine lv_istore (lv' := [(8, .int (0 : Int32)), (3, .int (x3 - x3 / r20 * r20)), (7, .int (x3 / r20)), (6, .int r20), (0, .int x0), (2, .ref h_p2), (4, .int x4), (5, .int x5)]) hx hb dX11_permutation_37 hl (by decide) rfl (fun ls hl => ?_)
        obtain ⟨I39, m39, hI39, hB39⟩ := h
        have L39 : ∀ (x3 : Int32) (x4 : Int32) (x5 : Int32) (p2 : Nat → Int32) (I39 : Int32 → Int32 → Prop) (m39 : Int32 → Int32 → Nat), (∀ (x7 : Int32) (x8 : Int32), I39 x7 x8 → pX11_permutation_39 N_p2 R8 K x0 x3 x4 x5 p2 x7 x8 (fun x7' x8' => I39 x7' x8' ∧ m39 x7' x8' < m39 x7 x8)) → ∀ (n : Nat) (x7 : Int32) (x8 : Int32) (H : Heap) (locs : List Loc) (ls : Array Slot), I39 x7 x8 → m39 x7 x8 < n → va_P G vwCl (w_X11_permutation Y h_p2 N_p2 p2) H → va_D A (w_X11_permutation Y h_p2 N_p2 p2) → va_S A s.heap H locs → lv_has ls 9 [(0, .int x0), (2, .ref h_p2), (3, .int x3), (4, .int x4), (5, .int x5), (7, .int x7), (8, .int x8)] → W p l e R s m args below meth c H locs 0 0 Q (F0 m 39 ls []) := by
          intro x3 x4 x5 p2 I39 m39 hB39 n
          induction n with
          | zero => intro x7 x8 H locs ls _ hm; exact absurd hm (Nat.not_lt_zero _)
          | succ n ih =>
            intro x7 x8 H locs ls hI hm hP hD hS hl
            obtain ⟨R39, h, rec39⟩ : ∃ R39 : Int32 → Int32 → Prop, pX11_permutation_39 N_p2 R8 K x0 x3 x4 x5 p2 x7 x8 R39 ∧ ∀ (x7 : Int32) (x8 : Int32) (H : Heap) (locs : List Loc) (ls : Array Slot), R39 x7 x8 → va_P G vwCl (w_X11_permutation Y h_p2 N_p2 p2) H → va_D A (w_X11_permutation Y h_p2 N_p2 p2) → va_S A s.heap H locs → lv_has ls 9 [(0, .int x0), (2, .ref h_p2), (3, .int x3), (4, .int x4), (5, .int x5), (7, .int x7), (8, .int x8)] → W p l e R s m args below meth c H locs 0 0 Q (F0 m 39 ls []) := ⟨_, hB39 x7 x8 hI, fun x7 x8 H locs ls hh hP hD hS hl => ih x7 x8 H locs ls hh.1 (Nat.lt_of_lt_of_le hh.2 (Nat.le_of_lt_succ hm)) hP hD hS hl⟩
            have J55 : ∀ (x7 : Int32) (x8 : Int32) (H : Heap) (locs : List Loc) (ls : Array Slot), pX11_permutation_55 N_p2 R8 R39 K x0 x3 x4 x5 p2 x7 x8 → va_P G vwCl (w_X11_permutation Y h_p2 N_p2 p2) H → va_D A (w_X11_permutation Y h_p2 N_p2 p2) → va_S A s.heap H locs → lv_has ls 9 [(0, .int x0), (2, .ref h_p2), (3, .int x3), (4, .int x4), (5, .int x5), (7, .int x7), (8, .int x8)] → W p l e R s m args below meth c H locs 0 0 Q (F0 m 55 ls []) := by
              intro x7 x8 H locs ls h hP hD hS hl
              refine lv_iload hx hb dX11_permutation_55 (lv_at hl 5 rfl) ?_
              refine lv_iload hx hb dX11_permutation_57 (lv_at hl 3 rfl) ?_
              refine lv_iload hx hb dX11_permutation_59 (lv_at hl 6 rfl) ?_
              refine lv_ishr hx hb dX11_permutation_61 ?_
              refine lv_iconst (v := 1) hx hb dX11_permutation_62 (by decide) ?_
              refine lv_iand hx hb dX11_permutation_63 ?_
              refine lv_iconst (v := 1) hx hb dX11_permutation_64 (by decide) ?_
              obtain ⟨ht, hf⟩ := h
              refine lv_icmp_ne (tgt := 72) hx hb dX11_permutation_65 (by decide) (fun c9 => ?_) (fun c9 => ?_)
              · have h := ht c9
                refine lv_iconst (v := 1) hx hb dX11_permutation_72 (by decide) ?_
                refine lv_isub hx hb dX11_permutation_73 ?_
                refine lv_istore (lv' := [(7, .int (x7 - (1 : Int32))), (0, .int x0), (2, .ref h_p2), (3, .int x3), (4, .int x4), (5, .int x5), (8, .int x8)]) hx hb dX11_permutation_74 hl (by decide) rfl (fun ls hl => ?_)
                refine lv_iinc (v := (x8 + 1)) (lv' := [(8, .int (x8 + 1)), (7, .int (x7 - (1 : Int32))), (0, .int x0), (2, .ref h_p2), (3, .int x3), (4, .int x4), (5, .int x5)]) hx hb dX11_permutation_76 hl (k := 6) rfl rfl (by decide) rfl (fun ls hl => ?_)
                refine lv_goto (tgt := 39) hx hb dX11_permutation_79 (by decide) ?_
                exact rec39 (x7 - (1 : Int32)) (x8 + 1) H locs ls h hP hD hS (lv_sub hl [2, 3, 4, 5, 6, 1, 0] rfl)
              · have h := hf c9
                refine lv_iconst (v := 0) hx hb dX11_permutation_68 (by decide) ?_
                refine lv_goto (tgt := 73) hx hb dX11_permutation_69 (by decide) ?_
                refine lv_isub hx hb dX11_permutation_73 ?_
                refine lv_istore (lv' := [(7, .int (x7 - (0 : Int32))), (0, .int x0), (2, .ref h_p2), (3, .int x3), (4, .int x4), (5, .int x5), (8, .int x8)]) hx hb dX11_permutation_74 hl (by decide) rfl (fun ls hl => ?_)
                refine lv_iinc (v := (x8 + 1)) (lv' := [(8, .int (x8 + 1)), (7, .int (x7 - (0 : Int32))), (0, .int x0), (2, .ref h_p2), (3, .int x3), (4, .int x4), (5, .int x5)]) hx hb dX11_permutation_76 hl (k := 6) rfl rfl (by decide) rfl (fun ls hl => ?_)
                refine lv_goto (tgt := 39) hx hb dX11_permutation_79 (by decide) ?_
                exact rec39 (x7 - (0 : Int32)) (x8 + 1) H locs ls h hP hD hS (lv_sub hl [2, 3, 4, 5, 6, 1, 0] rfl)
            refine lv_iload hx hb dX11_permutation_39 (lv_at hl 3 rfl) ?_
            refine lv_iload hx hb dX11_permutation_41 (lv_at hl 6 rfl) ?_
            refine lv_ishr hx hb dX11_permutation_43 ?_
            refine lv_iconst (v := 1) hx hb dX11_permutation_44 (by decide) ?_
            refine lv_iand hx hb dX11_permutation_45 ?_
            refine lv_iconst (v := 1) hx hb dX11_permutation_46 (by decide) ?_
            obtain ⟨ht, hf⟩ := h
            refine lv_icmp_eq (tgt := 55) hx hb dX11_permutation_47 (by decide) (fun c9 => ?_) (fun c9 => ?_)
            · have h := ht c9
              exact J55 x7 x8 H locs ls h hP hD hS (lv_sub hl [0, 1, 2, 3, 4, 5, 6] rfl)
            · have h := hf c9
              refine lv_iload hx hb dX11_permutation_50 (lv_at hl 5 rfl) ?_
              obtain ⟨ht, hf⟩ := h
              refine lv_if_le (tgt := 82) hx hb dX11_permutation_52 (by decide) (fun c9 => ?_) (fun c9 => ?_)
              · have h := ht c9
                refine lv_aload_n hx hb dX11_permutation_82 rfl (lv_at hl 1 rfl) ?_
                refine lv_iload hx hb dX11_permutation_83 (lv_at hl 4 rfl) ?_
                refine lv_iload hx hb dX11_permutation_85 (lv_at hl 6 rfl) ?_
                obtain ⟨hin, h⟩ := h
                refine va_iast hx hb hK hP hD hS 0 0 rfl rfl hin dX11_permutation_87 (fun H locs hP hD hS => ?_)
                have hP : va_P G vwCl (w_X11_permutation Y h_p2 N_p2 (upd p2 (Int32.toNatClampNeg x5) x8)) H := hP
                have hD : va_D A (w_X11_permutation Y h_p2 N_p2 (upd p2 (Int32.toNatClampNeg x5) x8)) := hD
                refine lv_iload hx hb dX11_permutation_88 (lv_at hl 3 rfl) ?_
                refine lv_iconst (v := 1) hx hb dX11_permutation_90 (by decide) ?_
                refine lv_iload hx hb dX11_permutation_91 (lv_at hl 6 rfl) ?_
                refine lv_ishl hx hb dX11_permutation_93 ?_
                refine lv_ior hx hb dX11_permutation_94 ?_
                refine lv_istore (lv' := [(4, .int (x4 ||| ((1 : Int32) <<< (x8 &&& 31)))), (0, .int x0), (2, .ref h_p2), (3, .int x3), (5, .int x5), (7, .int x7), (8, .int x8)]) hx hb dX11_permutation_95 hl (by decide) rfl (fun ls hl => ?_)
                refine lv_iinc (v := (x5 + 1)) (lv' := [(5, .int (x5 + 1)), (4, .int (x4 ||| ((1 : Int32) <<< (x8 &&& 31)))), (0, .int x0), (2, .ref h_p2), (3, .int x3), (7, .int x7), (8, .int x8)]) hx hb dX11_permutation_97 hl (k := 4) rfl rfl (by decide) rfl (fun ls hl => ?_)
                refine lv_goto (tgt := 8) hx hb dX11_permutation_100 (by decide) ?_
                exact rec8 x3 (x4 ||| ((1 : Int32) <<< (x8 &&& 31))) (x5 + 1) (upd p2 (Int32.toNatClampNeg x5) x8) H locs ls h hP hD hS (lv_sub hl [2, 3, 4, 1, 0] rfl)
              · have h := hf c9
                exact J55 x7 x8 H locs ls h hP hD hS (lv_sub hl [0, 1, 2, 3, 4, 5, 6] rfl)
        exact L39 (x3 - x3 / r20 * r20) x4 x5 p2 I39 m39 hB39 _ (x3 / r20) (0 : Int32) H locs ls hI39 (Nat.lt_succ_self _) hP hD hS (lv_sub hl [4, 5, 1, 6, 7, 2, 0] rfl)
  exact L8 x0 I8 m8 hB8 _ x1 (0 : Int32) (0 : Int32) p2 H locs ls hI8 (Nat.lt_succ_self _) hP hD hS (lv_sub hl [3, 5, 2, 1, 0] rfl)

set_option maxHeartbeats 20000000 in
set_option maxRecDepth 100000 in
theorem c_X11_permutation (l : Launch) (G : va_G) (Y : Nat → ClassId) (tF sz : Nat) (h_p2 : Nat) (N_p2 : Nat) (p2 : Nat → Int32) (x0 : Int32) (x1 : Int32) {K : (Nat → Int32) → Prop} (h : pX11_permutation N_p2 p2 x0 x1 K) : Met l yX11_permutation wsX11_permutation ({ frames := 11, cells := 0, slots := 0, locals := 220 }) (PcM G Y tF sz (w_X11_permutation Y h_p2 N_p2 p2) [.int x0, .int x1, .ref h_p2]) (va_Qv (fun u : (Nat → Int32) => K u) (fun u t => BM G Y (va_A (w_X11_permutation Y h_p2 N_p2 p2) sz) (w_X11_permutation Y h_p2 N_p2 u) t) (va_A (w_X11_permutation Y h_p2 N_p2 p2) sz)) 0 0 (va_A (w_X11_permutation Y h_p2 N_p2 p2) sz) := by
  refine Met.ofW (cc := cX11_permutation) (maxL := 9) (ret := none) (by decide +kernel) rfl ?_
  intro p e s m args below meth c s₁ B hml hv
  obtain ⟨rfl, hsz, hP, hK, hD0, hE⟩ := hv
  have hts := atoms_spec (ws := wsX11_permutation) B.pre
  have hown : s.vm.findClass RX11 = some m.cls := findClass_of_methodNamed B.named
  have hlocks := B.notSynchronized
  subst hsz
  have hD := hD0.self (sz := s.heap.size)
  exact wk_X11_permutation h_p2 N_p2 p2 x0 x1 B.exec B.bytes hml hown hts hK hE (fun q h => Or.inr h) (Nat.le_refl _) (Nat.le_refl _) (fun p2 H locs ls pc hP hD hS hk hd => W.vret B.exec B.bytes B.returns (fun t ht hW => ⟨⟨p2, rfl, hk, by rw [ht]; exact hP, va_K.moved hW.alike hK, hD⟩, hS.F ht⟩) hS.2.2 hd) hP hD h

abbrev w_X11_numberOf (Y : Nat → ClassId) (h_p1 : Nat) (N_p1 : Nat) (p1 : Nat → Int32) : va_W := [(h_p1, .inl (Y 0, N_p1, .inl p1))]

set_option maxHeartbeats 20000000 in
set_option maxRecDepth 100000 in
theorem wk_X11_numberOf {p : Program} {l : Launch} {e : Env} {R : Room} {s : State} {m : MethodId} {args : Array Value} {below : List Frame} {meth : Method} {c : Code} {Q : State → Prop} {G : va_G} {Y : Nat → ClassId} {tF : Nat} {A : Nat → Prop} (h_p1 : Nat) (N_p1 : Nat) (p1 : Nat → Int32) (x0 : Int32) {K : Int32 → Prop} (hx : p.tables.exec = Jvm.exec) (hb : c.code = cX11_numberOf) (hml : c.maxLocals = 6) (hown : s.vm.findClass RX11 = some m.cls) (hts : ∀ w ∈ wsX11_numberOf, w.before args s = true) (hK : va_K G vwCl (tyL Y) s) (hE : Ev A tF s) (hA : ∀ q, s.heap.size ≤ q → A q) (hRf : 11 ≤ R.frames) (hRl : 220 ≤ R.locals) (hret : ∀ (r : Int32)  (H : Heap) (locs : List Loc) (ls : Array Slot) (pc : Nat), va_P G vwCl (w_X11_numberOf Y h_p1 N_p1 p1) H → va_D A (w_X11_numberOf Y h_p1 N_p1 p1) → va_S A s.heap H locs → K r → decode cX11_numberOf pc = .ok (.ireturn, 1) → W p l e R s m args below meth c H locs 0 0 Q (F0 m pc ls [.int r])) (hP : va_P G vwCl (w_X11_numberOf Y h_p1 N_p1 p1) s.heap) (hD : va_D A (w_X11_numberOf Y h_p1 N_p1 p1)) (h : pX11_numberOf N_p1 p1 x0 K) : W p l e R s m args below meth c s.heap [] 0 0 Q (entryFrame m ([.int x0, .ref h_p1] : List Value).toArray 6) := by
  have hl := lv_entry ([.int x0, .ref h_p1]) (n := 6) (Nat.le_of_ble_eq_true rfl)
  rw [lg_entry_eq]
  generalize (lg_sl ([.int x0, .ref h_p1]) ++ List.replicate (6 - (lg_sl ([.int x0, .ref h_p1])).length) Slot.unset).toArray = ls at hl ⊢
  have hl : lv_has ls 6 [(0, .int x0), (1, .ref h_p1)] := hl
  generalize hH0 : s.heap = H at hP ⊢
  have hS : va_S A s.heap H [] := by rw [← hH0]; exact va_S.rf
  clear hH0
  generalize ([] : List Loc) = locs at hS ⊢
  refine lv_iconst (v := 0) hx hb dX11_numberOf_0 (by decide) ?_
  refine lv_istore_n (lv' := [(2, .int (0 : Int32)), (0, .int x0), (1, .ref h_p1)]) hx hb dX11_numberOf_1 rfl hl (by decide) rfl (fun ls hl => ?_)
  refine lv_iconst (v := 0) hx hb dX11_numberOf_2 (by decide) ?_
  refine lv_istore_n (lv' := [(3, .int (0 : Int32)), (2, .int (0 : Int32)), (0, .int x0), (1, .ref h_p1)]) hx hb dX11_numberOf_3 rfl hl (by decide) rfl (fun ls hl => ?_)
  obtain ⟨I4, m4, hI4, hB4⟩ := h
  have L4 : ∀ (x0 : Int32) (I4 : Int32 → Int32 → Prop) (m4 : Int32 → Int32 → Nat), (∀ (x2 : Int32) (x3 : Int32), I4 x2 x3 → pX11_numberOf_4 N_p1 p1 K x0 x2 x3 (fun x2' x3' => I4 x2' x3' ∧ m4 x2' x3' < m4 x2 x3)) → ∀ (n : Nat) (x2 : Int32) (x3 : Int32) (H : Heap) (locs : List Loc) (ls : Array Slot), I4 x2 x3 → m4 x2 x3 < n → va_P G vwCl (w_X11_numberOf Y h_p1 N_p1 p1) H → va_D A (w_X11_numberOf Y h_p1 N_p1 p1) → va_S A s.heap H locs → lv_has ls 6 [(0, .int x0), (1, .ref h_p1), (2, .int x2), (3, .int x3)] → W p l e R s m args below meth c H locs 0 0 Q (F0 m 4 ls []) := by
    intro x0 I4 m4 hB4 n
    induction n with
    | zero => intro x2 x3 H locs ls _ hm; exact absurd hm (Nat.not_lt_zero _)
    | succ n ih =>
      intro x2 x3 H locs ls hI hm hP hD hS hl
      obtain ⟨R4, h, rec4⟩ : ∃ R4 : Int32 → Int32 → Prop, pX11_numberOf_4 N_p1 p1 K x0 x2 x3 R4 ∧ ∀ (x2 : Int32) (x3 : Int32) (H : Heap) (locs : List Loc) (ls : Array Slot), R4 x2 x3 → va_P G vwCl (w_X11_numberOf Y h_p1 N_p1 p1) H → va_D A (w_X11_numberOf Y h_p1 N_p1 p1) → va_S A s.heap H locs → lv_has ls 6 [(0, .int x0), (1, .ref h_p1), (2, .int x2), (3, .int x3)] → W p l e R s m args below meth c H locs 0 0 Q (F0 m 4 ls []) := ⟨_, hB4 x2 x3 hI, fun x2 x3 H locs ls hh hP hD hS hl => ih x2 x3 H locs ls hh.1 (Nat.lt_of_lt_of_le hh.2 (Nat.le_of_lt_succ hm)) hP hD hS hl⟩
      refine lv_iload_n hx hb dX11_numberOf_4 rfl (lv_at hl 3 rfl) ?_
      refine lv_iload_n hx hb dX11_numberOf_5 rfl (lv_at hl 0 rfl) ?_
      obtain ⟨ht, hf⟩ := h
      refine lv_icmp_ge (tgt := 69) hx hb dX11_numberOf_6 (by decide) (fun c9 => ?_) (fun c9 => ?_)
      · have h := ht c9
        refine lv_iload_n hx hb dX11_numberOf_69 rfl (lv_at hl 2 rfl) ?_
        exact hret x2  H locs ls _ hP hD hS h dX11_numberOf_70
      · have h := hf c9
        refine lv_iconst (v := 0) hx hb dX11_numberOf_9 (by decide) ?_
        refine lv_istore (lv' := [(4, .int (0 : Int32)), (0, .int x0), (1, .ref h_p1), (2, .int x2), (3, .int x3)]) hx hb dX11_numberOf_10 hl (by decide) rfl (fun ls hl => ?_)
        refine lv_iload_n hx hb dX11_numberOf_12 rfl (lv_at hl 4 rfl) ?_
        refine lv_iconst (v := 1) hx hb dX11_numberOf_13 (by decide) ?_
        refine lv_iadd hx hb dX11_numberOf_14 ?_
        refine lv_istore (lv' := [(5, .int (x3 + (1 : Int32))), (4, .int (0 : Int32)), (0, .int x0), (1, .ref h_p1), (2, .int x2), (3, .int x3)]) hx hb dX11_numberOf_15 hl (by decide) rfl (fun ls hl => ?_)
        obtain ⟨I17, m17, hI17, hB17⟩ := h
        have L17 : ∀ (x2 : Int32) (x3 : Int32) (I17 : Int32 → Int32 → Prop) (m17 : Int32 → Int32 → Nat), (∀ (x4 : Int32) (x5 : Int32), I17 x4 x5 → pX11_numberOf_17 N_p1 p1 R4 K x0 x2 x3 x4 x5 (fun x4' x5' => I17 x4' x5' ∧ m17 x4' x5' < m17 x4 x5)) → ∀ (n : Nat) (x4 : Int32) (x5 : Int32) (H : Heap) (locs : List Loc) (ls : Array Slot), I17 x4 x5 → m17 x4 x5 < n → va_P G vwCl (w_X11_numberOf Y h_p1 N_p1 p1) H → va_D A (w_X11_numberOf Y h_p1 N_p1 p1) → va_S A s.heap H locs → lv_has ls 6 [(0, .int x0), (1, .ref h_p1), (2, .int x2), (3, .int x3), (4, .int x4), (5, .int x5)] → W p l e R s m args below meth c H locs 0 0 Q (F0 m 17 ls []) := by
          intro x2 x3 I17 m17 hB17 n
          induction n with
          | zero => intro x4 x5 H locs ls _ hm; exact absurd hm (Nat.not_lt_zero _)
          | succ n ih =>
            intro x4 x5 H locs ls hI hm hP hD hS hl
            obtain ⟨R17, h, rec17⟩ : ∃ R17 : Int32 → Int32 → Prop, pX11_numberOf_17 N_p1 p1 R4 K x0 x2 x3 x4 x5 R17 ∧ ∀ (x4 : Int32) (x5 : Int32) (H : Heap) (locs : List Loc) (ls : Array Slot), R17 x4 x5 → va_P G vwCl (w_X11_numberOf Y h_p1 N_p1 p1) H → va_D A (w_X11_numberOf Y h_p1 N_p1 p1) → va_S A s.heap H locs → lv_has ls 6 [(0, .int x0), (1, .ref h_p1), (2, .int x2), (3, .int x3), (4, .int x4), (5, .int x5)] → W p l e R s m args below meth c H locs 0 0 Q (F0 m 17 ls []) := ⟨_, hB17 x4 x5 hI, fun x4 x5 H locs ls hh hP hD hS hl => ih x4 x5 H locs ls hh.1 (Nat.lt_of_lt_of_le hh.2 (Nat.le_of_lt_succ hm)) hP hD hS hl⟩
            refine lv_iload hx hb dX11_numberOf_17 (lv_at hl 5 rfl) ?_
            refine lv_iload_n hx hb dX11_numberOf_19 rfl (lv_at hl 0 rfl) ?_
            obtain ⟨ht, hf⟩ := h
            refine lv_icmp_ge (tgt := 49) hx hb dX11_numberOf_20 (by decide) (fun c9 => ?_) (fun c9 => ?_)
            · have h := ht c9
              refine lv_iload_n hx hb dX11_numberOf_49 rfl (lv_at hl 2 rfl) ?_
              refine lv_iload hx hb dX11_numberOf_50 (lv_at hl 4 rfl) ?_
              refine lv_iload_n hx hb dX11_numberOf_52 rfl (lv_at hl 0 rfl) ?_
              refine lv_iconst (v := 1) hx hb dX11_numberOf_53 (by decide) ?_
              refine lv_isub hx hb dX11_numberOf_54 ?_
              refine lv_iload_n hx hb dX11_numberOf_55 rfl (lv_at hl 3 rfl) ?_
              refine lv_isub hx hb dX11_numberOf_56 ?_
              refine mc_iS ⟨hx, hb, hml, hown, hts⟩ hK hE hA hP hD hS (c_X11_factorial 10 l G Y tF H.size ((x0 - (1 : Int32)) - x3) h) (va_cwS 1 hts gX11_numberOf_X11_factorial rfl rfl rfl (by decide +kernel) ⟨Nat.le_trans (by decide) hRf, Nat.le_trans (by decide) hRl⟩) (fun u => (w_X11_numberOf Y h_p1 N_p1 p1)) [] [0] [0] rfl rfl rfl rfl (by decide) (fun _ => rfl) rfl rfl hl.1 rfl (Nat.le_of_ble_eq_true rfl) dX11_numberOf_57 (fun r57 u H locs h hP hD hS => ?_)
              try dsimp only at h
              have hP : va_P G vwCl (w_X11_numberOf Y h_p1 N_p1 p1) H := hP
              have hD : va_D A (w_X11_numberOf Y h_p1 N_p1 p1) := hD
              refine lv_imul hx hb dX11_numberOf_60 ?_
              refine lv_iadd hx hb dX11_numberOf_61 ?_
              refine lv_istore_n (lv' := [(2, .int (x2 + (x4 * r57))), (0, .int x0), (1, .ref h_p1), (3, .int x3), (4, .int x4), (5, .int x5)]) hx hb dX11_numberOf_62 rfl hl (by decide) rfl (fun ls hl => ?_)
              refine lv_iinc (v := (x3 + 1)) (lv' := [(3, .int (x3 + 1)), (2, .int (x2 + (x4 * r57))), (0, .int x0), (1, .ref h_p1), (4, .int x4), (5, .int x5)]) hx hb dX11_numberOf_63 hl (k := 3) rfl rfl (by decide) rfl (fun ls hl => ?_)
              refine lv_goto (tgt := 4) hx hb dX11_numberOf_66 (by decide) ?_
              exact rec4 (x2 + (x4 * r57)) (x3 + 1) H locs ls h hP hD hS (lv_sub hl [2, 3, 1, 0] rfl)
            · have h := hf c9
              refine lv_iload hx hb dX11_numberOf_23 (lv_at hl 4 rfl) ?_
              refine lv_aload_n hx hb dX11_numberOf_25 rfl (lv_at hl 1 rfl) ?_
              refine lv_iload hx hb dX11_numberOf_26 (lv_at hl 5 rfl) ?_
              obtain ⟨hin, h⟩ := h
              refine va_iald hx hb hK hP 0 0 rfl rfl hin dX11_numberOf_28 ?_
              refine lv_aload_n hx hb dX11_numberOf_29 rfl (lv_at hl 1 rfl) ?_
              refine lv_iload_n hx hb dX11_numberOf_30 rfl (lv_at hl 3 rfl) ?_
              obtain ⟨hin, h⟩ := h
              refine va_iald hx hb hK hP 0 0 rfl rfl hin dX11_numberOf_31 ?_
              obtain ⟨ht, hf⟩ := h
              refine lv_icmp_ge (tgt := 39) hx hb dX11_numberOf_32 (by decide) (fun c9 => ?_) (fun c9 => ?_)
              · have h := ht c9
                refine lv_iconst (v := 0) hx hb dX11_numberOf_39 (by decide) ?_
                refine lv_iadd hx hb dX11_numberOf_40 ?_
                refine lv_istore (lv' := [(4, .int (x4 + (0 : Int32))), (0, .int x0), (1, .ref h_p1), (2, .int x2), (3, .int x3), (5, .int x5)]) hx hb dX11_numberOf_41 hl (by decide) rfl (fun ls hl => ?_)
                refine lv_iinc (v := (x5 + 1)) (lv' := [(5, .int (x5 + 1)), (4, .int (x4 + (0 : Int32))), (0, .int x0), (1, .ref h_p1), (2, .int x2), (3, .int x3)]) hx hb dX11_numberOf_43 hl (k := 5) rfl rfl (by decide) rfl (fun ls hl => ?_)
                refine lv_goto (tgt := 17) hx hb dX11_numberOf_46 (by decide) ?_
                exact rec17 (x4 + (0 : Int32)) (x5 + 1) H locs ls h hP hD hS (lv_sub hl [2, 3, 4, 5, 1, 0] rfl)
              · have h := hf c9
                refine lv_iconst (v := 1) hx hb dX11_numberOf_35 (by decide) ?_
                refine lv_goto (tgt := 40) hx hb dX11_numberOf_36 (by decide) ?_
                refine lv_iadd hx hb dX11_numberOf_40 ?_
                refine lv_istore (lv' := [(4, .int (x4 + (1 : Int32))), (0, .int x0), (1, .ref h_p1), (2, .int x2), (3, .int x3), (5, .int x5)]) hx hb dX11_numberOf_41 hl (by decide) rfl (fun ls hl => ?_)
                refine lv_iinc (v := (x5 + 1)) (lv' := [(5, .int (x5 + 1)), (4, .int (x4 + (1 : Int32))), (0, .int x0), (1, .ref h_p1), (2, .int x2), (3, .int x3)]) hx hb dX11_numberOf_43 hl (k := 5) rfl rfl (by decide) rfl (fun ls hl => ?_)
                refine lv_goto (tgt := 17) hx hb dX11_numberOf_46 (by decide) ?_
                exact rec17 (x4 + (1 : Int32)) (x5 + 1) H locs ls h hP hD hS (lv_sub hl [2, 3, 4, 5, 1, 0] rfl)
        exact L17 x2 x3 I17 m17 hB17 _ (0 : Int32) (x3 + (1 : Int32)) H locs ls hI17 (Nat.lt_succ_self _) hP hD hS (lv_sub hl [2, 3, 4, 5, 1, 0] rfl)
  exact L4 x0 I4 m4 hB4 _ (0 : Int32) (0 : Int32) H locs ls hI4 (Nat.lt_succ_self _) hP hD hS (lv_sub hl [2, 3, 1, 0] rfl)

set_option maxHeartbeats 20000000 in
set_option maxRecDepth 100000 in
theorem c_X11_numberOf (l : Launch) (G : va_G) (Y : Nat → ClassId) (tF sz : Nat) (h_p1 : Nat) (N_p1 : Nat) (p1 : Nat → Int32) (x0 : Int32) {K : Int32 → Prop} (h : pX11_numberOf N_p1 p1 x0 K) : Met l yX11_numberOf wsX11_numberOf ({ frames := 11, cells := 0, slots := 0, locals := 220 }) (PcM G Y tF sz (w_X11_numberOf Y h_p1 N_p1 p1) [.int x0, .ref h_p1]) (va_Qi (fun (r : Int32) (u : Unit) => K r ) (fun u t => BM G Y (va_A (w_X11_numberOf Y h_p1 N_p1 p1) sz) (w_X11_numberOf Y h_p1 N_p1 p1) t) (va_A (w_X11_numberOf Y h_p1 N_p1 p1) sz)) 0 0 (va_A (w_X11_numberOf Y h_p1 N_p1 p1) sz) := by
  refine Met.ofW (cc := cX11_numberOf) (maxL := 6) (ret := (some .int)) (by decide +kernel) rfl ?_
  intro p e s m args below meth c s₁ B hml hv
  obtain ⟨rfl, hsz, hP, hK, hD0, hE⟩ := hv
  have hts := atoms_spec (ws := wsX11_numberOf) B.pre
  have hown : s.vm.findClass RX11 = some m.cls := findClass_of_methodNamed B.named
  have hlocks := B.notSynchronized
  subst hsz
  have hD := hD0.self (sz := s.heap.size)
  exact wk_X11_numberOf h_p1 N_p1 p1 x0 B.exec B.bytes hml hown hts hK hE (fun q h => Or.inr h) (Nat.le_refl _) (Nat.le_refl _) (fun r  H locs ls pc hP hD hS hk hd => W.iret (v := r) B.exec B.bytes B.returns (fun t ht hW => ⟨⟨r, (), rfl, hk, by rw [ht]; exact hP, va_K.moved hW.alike hK, hD⟩, hS.F ht⟩) hS.2.2 hd) hP hD h

abbrev w_X11_turn (Y : Nat → ClassId) (h_t : Nat) (B_t : Nat → Nat) (t_thrown : Int32) (t_n : Int32) (t_modulus : Int32) (t_rows : Int32) (t_strands : Int32) (t_letters : Int32) (t_listedMany : Int32) (t_listN : Int32) (t_listWhat : Int32) (t_f : Nat → Int32) (t_table : Nat → Int32) (t_twists : Nat → Int32) : va_W := [(h_t, .inr (10, [.int t_thrown, .int t_n, .ref (B_t 2), .int t_modulus, .ref (B_t 4), .ref (B_t 5), .ref (B_t 6), .ref (B_t 7), .ref (B_t 8), .ref (B_t 9), .ref (B_t 10), .int t_rows, .ref (B_t 12), .ref (B_t 13), .ref (B_t 14), .ref (B_t 15), .ref (B_t 16), .ref (B_t 17), .ref (B_t 18), .ref (B_t 19), .int t_strands, .int t_letters, .ref (B_t 22), .ref (B_t 23), .ref (B_t 24), .ref (B_t 25), .int t_listedMany, .int t_listN, .int t_listWhat])), ((B_t 5), .inl (Y 0, 8, .inl t_f)), ((B_t 2), .inl (Y 0, 64, .inl t_table)), ((B_t 4), .inl (Y 0, 64, .inl t_twists))]

set_option maxHeartbeats 20000000 in
set_option maxRecDepth 100000 in
theorem wk_X11_turn {p : Program} {l : Launch} {e : Env} {R : Room} {s : State} {m : MethodId} {args : Array Value} {below : List Frame} {meth : Method} {c : Code} {Q : State → Prop} {G : va_G} {Y : Nat → ClassId} {tF : Nat} {A : Nat → Prop} (h_t : Nat) (B_t : Nat → Nat) (t_thrown : Int32) (t_n : Int32) (t_modulus : Int32) (t_rows : Int32) (t_strands : Int32) (t_letters : Int32) (t_listedMany : Int32) (t_listN : Int32) (t_listWhat : Int32) (t_f : Nat → Int32) (t_table : Nat → Int32) (t_twists : Nat → Int32) (x1 : Int32) (x2 : Int32) {K : Int32 → Int32 → Int32 → (Nat → Int32) → (Nat → Int32) → (Nat → Int32) → Prop} (hx : p.tables.exec = Jvm.exec) (hb : c.code = cX11_turn) (hml : c.maxLocals = 5) (hown : s.vm.findClass RX11 = some m.cls) (hts : ∀ w ∈ wsX11_turn, w.before args s = true) (hK : va_K G vwCl (tyL Y) s) (hE : Ev A tF s) (hA : ∀ q, s.heap.size ≤ q → A q) (hRf : 12 ≤ R.frames) (hRl : 248 ≤ R.locals) (hret : ∀ (r : Int32) (t_thrown : Int32) (t_n : Int32) (t_f : Nat → Int32) (t_table : Nat → Int32) (t_twists : Nat → Int32) (H : Heap) (locs : List Loc) (ls : Array Slot) (pc : Nat), va_P G vwCl (w_X11_turn Y h_t B_t t_thrown t_n t_modulus t_rows t_strands t_letters t_listedMany t_listN t_listWhat t_f t_table t_twists) H → va_D A (w_X11_turn Y h_t B_t t_thrown t_n t_modulus t_rows t_strands t_letters t_listedMany t_listN t_listWhat t_f t_table t_twists) → va_S A s.heap H locs → zb r → K r t_thrown t_n t_f t_table t_twists → decode cX11_turn pc = .ok (.ireturn, 1) → W p l e R s m args below meth c H locs 0 0 Q (F0 m pc ls [.int r])) (hP : va_P G vwCl (w_X11_turn Y h_t B_t t_thrown t_n t_modulus t_rows t_strands t_letters t_listedMany t_listN t_listWhat t_f t_table t_twists) s.heap) (hD : va_D A (w_X11_turn Y h_t B_t t_thrown t_n t_modulus t_rows t_strands t_letters t_listedMany t_listN t_listWhat t_f t_table t_twists)) (h : pX11_turn t_thrown t_n t_f t_table t_twists x1 x2 K) : W p l e R s m args below meth c s.heap [] 0 0 Q (entryFrame m ([.ref h_t, .int x1, .int x2] : List Value).toArray 5) := by
  have inX11 : ∀ w ∈ u_ws RX11 TX11 29, w ∈ wsX11_turn := by decide +kernel
  have hf13 := hts (.fieldLink RX11 13 "RackBenchModel" "table" "[I") (by decide +kernel)
  have hf23 := hts (.fieldLink RX11 23 "RackBenchModel" "f" "[I") (by decide +kernel)
  have hf83 := hts (.fieldLink RX11 83 "RackBenchModel" "thrown" "I") (by decide +kernel)
  have hcL93 := hts (.constantLong RX11 93 (8)) (by decide +kernel)
  have hl := lv_entry ([.ref h_t, .int x1, .int x2]) (n := 5) (Nat.le_of_ble_eq_true rfl)
  rw [lg_entry_eq]
  generalize (lg_sl ([.ref h_t, .int x1, .int x2]) ++ List.replicate (5 - (lg_sl ([.ref h_t, .int x1, .int x2])).length) Slot.unset).toArray = ls at hl ⊢
  have hl : lv_has ls 5 [(0, .ref h_t), (1, .int x1), (2, .int x2)] := hl
  generalize hH0 : s.heap = H at hP ⊢
  have hS : va_S A s.heap H [] := by rw [← hH0]; exact va_S.rf
  clear hH0
  generalize ([] : List Loc) = locs at hS ⊢
  refine lv_aload_n hx hb dX11_turn_0 rfl (lv_at hl 0 rfl) ?_
  refine lv_iconst (v := 0) hx hb dX11_turn_1 (by decide) ?_
  refine va_put (D := G) (ci := 10) (v := .int (0 : Int32)) (ty := .int) (C := RX11) (T := TX11) (N := 29) hx hb hts inX11 tyX11 tyX11_ok nmX11 hown hK hP hD hS 0 rfl rfl 0 (by decide) hf83 (fun _ h9 => h9) rfl (by decide +kernel) rfl rfl (Nat.le_of_ble_eq_true rfl) dX11_turn_2 (fun H locs hP hD hS => ?_)
  have hP : va_P G vwCl (w_X11_turn Y h_t B_t (0 : Int32) t_n t_modulus t_rows t_strands t_letters t_listedMany t_listN t_listWhat t_f t_table t_twists) H := hP
  have hD : va_D A (w_X11_turn Y h_t B_t (0 : Int32) t_n t_modulus t_rows t_strands t_letters t_listedMany t_listN t_listWhat t_f t_table t_twists) := hD
  refine lv_iload_n hx hb dX11_turn_5 rfl (lv_at hl 1 rfl) ?_
  refine lv_i2l hx hb dX11_turn_6 rfl ?_
  refine lv_lconst (v := 1) hx hb dX11_turn_7 (by decide) ?_
  refine lv_ldc2 (v := 8) hx hb hown hcL93 dX11_turn_8 ?_
  refine mc_iS ⟨hx, hb, hml, hown, hts⟩ hK hE hA hP hD hS (c_X11_in l G Y tF H.size (Int32.toInt64 x1) (1 : Int64) (8 : Int64) h) (va_cwS 3 hts gX11_turn_X11_in rfl rfl rfl (by decide +kernel) ⟨Nat.le_trans (by decide) hRf, Nat.le_trans (by decide) hRl⟩) (fun u => (w_X11_turn Y h_t B_t (0 : Int32) t_n t_modulus t_rows t_strands t_letters t_listedMany t_listN t_listWhat t_f t_table t_twists)) [] [0, 1, 2, 3] [0, 1, 2, 3] rfl rfl rfl rfl (by decide) (fun _ => rfl) rfl rfl hl.1 rfl (Nat.le_of_ble_eq_true rfl) dX11_turn_11 (fun r11 u H locs h hP hD hS => ?_)
  try dsimp only at h
  have hP : va_P G vwCl (w_X11_turn Y h_t B_t (0 : Int32) t_n t_modulus t_rows t_strands t_letters t_listedMany t_listN t_listWhat t_f t_table t_twists) H := hP
  have hD : va_D A (w_X11_turn Y h_t B_t (0 : Int32) t_n t_modulus t_rows t_strands t_letters t_listedMany t_listN t_listWhat t_f t_table t_twists) := hD
  obtain ⟨ht, hf⟩ := h
  refine lv_if_eq (tgt := 33) hx hb dX11_turn_14 (by decide) (fun c9 => ?_) (fun c9 => ?_)
  · have h := ht c9
    refine lv_iconst (v := 0) hx hb dX11_turn_33 (by decide) ?_
    obtain ⟨hz, h⟩ := h
    exact hret (0 : Int32) (0 : Int32) t_n t_f t_table t_twists H locs ls _ hP hD hS hz h dX11_turn_34
  · have h := hf c9
    refine lv_iload_n hx hb dX11_turn_17 rfl (lv_at hl 2 rfl) ?_
    refine lv_i2l hx hb dX11_turn_18 rfl ?_
    refine lv_lconst (v := 0) hx hb dX11_turn_19 (by decide) ?_
    refine lv_iload_n hx hb dX11_turn_20 rfl (lv_at hl 1 rfl) ?_
    refine mc_iS ⟨hx, hb, hml, hown, hts⟩ hK hE hA hP hD hS (c_X11_factorial 10 l G Y tF H.size x1 h) (va_cwS 1 hts gX11_turn_X11_factorial rfl rfl rfl (by decide +kernel) ⟨Nat.le_trans (by decide) hRf, Nat.le_trans (by decide) hRl⟩) (fun u => (w_X11_turn Y h_t B_t (0 : Int32) t_n t_modulus t_rows t_strands t_letters t_listedMany t_listN t_listWhat t_f t_table t_twists)) [] [0, 1, 2, 3] [0, 1, 2, 3] rfl rfl rfl rfl (by decide) (fun _ => rfl) rfl rfl hl.1 rfl (Nat.le_of_ble_eq_true rfl) dX11_turn_21 (fun r21 u H locs h hP hD hS => ?_)
    try dsimp only at h
    have hP : va_P G vwCl (w_X11_turn Y h_t B_t (0 : Int32) t_n t_modulus t_rows t_strands t_letters t_listedMany t_listN t_listWhat t_f t_table t_twists) H := hP
    have hD : va_D A (w_X11_turn Y h_t B_t (0 : Int32) t_n t_modulus t_rows t_strands t_letters t_listedMany t_listN t_listWhat t_f t_table t_twists) := hD
    refine lv_iconst (v := 1) hx hb dX11_turn_24 (by decide) ?_
    refine lv_isub hx hb dX11_turn_25 ?_
    refine lv_i2l hx hb dX11_turn_26 rfl ?_
    refine mc_iS ⟨hx, hb, hml, hown, hts⟩ hK hE hA hP hD hS (c_X11_in l G Y tF H.size (Int32.toInt64 x2) (0 : Int64) (Int32.toInt64 (r21 - (1 : Int32))) h) (va_cwS 3 hts gX11_turn_X11_in rfl rfl rfl (by decide +kernel) ⟨Nat.le_trans (by decide) hRf, Nat.le_trans (by decide) hRl⟩) (fun u => (w_X11_turn Y h_t B_t (0 : Int32) t_n t_modulus t_rows t_strands t_letters t_listedMany t_listN t_listWhat t_f t_table t_twists)) [] [0, 1, 2, 3] [0, 1, 2, 3] rfl rfl rfl rfl (by decide) (fun _ => rfl) rfl rfl hl.1 rfl (Nat.le_of_ble_eq_true rfl) dX11_turn_27 (fun r27 u H locs h hP hD hS => ?_)
    try dsimp only at h
    have hP : va_P G vwCl (w_X11_turn Y h_t B_t (0 : Int32) t_n t_modulus t_rows t_strands t_letters t_listedMany t_listN t_listWhat t_f t_table t_twists) H := hP
    have hD : va_D A (w_X11_turn Y h_t B_t (0 : Int32) t_n t_modulus t_rows t_strands t_letters t_listedMany t_listN t_listWhat t_f t_table t_twists) := hD
    obtain ⟨ht, hf⟩ := h
    refine lv_if_ne (tgt := 35) hx hb dX11_turn_30 (by decide) (fun c9 => ?_) (fun c9 => ?_)
    · have h := ht c9
      refine lv_aload_n hx hb dX11_turn_35 rfl (lv_at hl 0 rfl) ?_
      refine lv_iload_n hx hb dX11_turn_36 rfl (lv_at hl 1 rfl) ?_
      refine mc_vV ⟨hx, hb, hml, hown, hts⟩ hK hE hA hP hD hS (c_X11_sized l G Y tF H.size h_t B_t (0 : Int32) t_n t_modulus t_rows t_strands t_letters t_listedMany t_listN t_listWhat t_twists x1 h) (cwV 1 hts gX11_turn_X11_sized rfl rfl rfl (by decide +kernel) ⟨Nat.le_trans (by decide) hRf, Nat.le_trans (by decide) hRl⟩) (fun u => (w_X11_turn Y h_t B_t (0 : Int32) u.1 t_modulus t_rows t_strands t_letters t_listedMany t_listN t_listWhat t_f t_table u.2)) [0, 3] [1, 2] [2, 0, 1, 3] rfl rfl rfl rfl (by decide) (fun _ => rfl) rfl 0 10 rfl rfl rfl rfl hl.1 rfl (Nat.le_of_ble_eq_true rfl) dX11_turn_37 (fun u H locs h hP hD hS => ?_)
      obtain ⟨t_n_37, t_twists_37⟩ := u
      try dsimp only at h
      have hP : va_P G vwCl (w_X11_turn Y h_t B_t (0 : Int32) t_n_37 t_modulus t_rows t_strands t_letters t_listedMany t_listN t_listWhat t_f t_table t_twists_37) H := hP
      have hD : va_D A (w_X11_turn Y h_t B_t (0 : Int32) t_n_37 t_modulus t_rows t_strands t_letters t_listedMany t_listN t_listWhat t_f t_table t_twists_37) := hD
      refine lv_iload_n hx hb dX11_turn_40 rfl (lv_at hl 1 rfl) ?_
      refine lv_iload_n hx hb dX11_turn_41 rfl (lv_at hl 2 rfl) ?_
      refine lv_aload_n hx hb dX11_turn_42 rfl (lv_at hl 0 rfl) ?_
      refine va_get (D := G) (ci := 10) (v := .ref (B_t 5)) (C := RX11) (T := TX11) (N := 29) hx hb hts inX11 hown hK hP 0 rfl rfl 5 (by decide) hf23 (fun _ h9 => h9) rfl dX11_turn_43 ?_
      refine mc_vS ⟨hx, hb, hml, hown, hts⟩ hK hE hA hP hD hS (c_X11_permutation l G Y tF H.size (B_t 5) 8 t_f x1 x2 h) (va_cwS 3 hts gX11_turn_X11_permutation rfl rfl rfl (by decide +kernel) ⟨Nat.le_trans (by decide) hRf, Nat.le_trans (by decide) hRl⟩) (fun u => (w_X11_turn Y h_t B_t (0 : Int32) t_n_37 t_modulus t_rows t_strands t_letters t_listedMany t_listN t_listWhat u t_table t_twists_37)) [1] [0, 2, 3] [0, 3, 1, 2] rfl rfl rfl rfl (by decide) (fun _ => rfl) rfl rfl hl.1 rfl (Nat.le_of_ble_eq_true rfl) dX11_turn_46 (fun u H locs h hP hD hS => ?_)
      obtain ⟨t_f_46, rfl⟩ : ∃ z, z = u := ⟨_, rfl⟩
      try dsimp only at h
      have hP : va_P G vwCl (w_X11_turn Y h_t B_t (0 : Int32) t_n_37 t_modulus t_rows t_strands t_letters t_listedMany t_listN t_listWhat t_f_46 t_table t_twists_37) H := hP
      have hD : va_D A (w_X11_turn Y h_t B_t (0 : Int32) t_n_37 t_modulus t_rows t_strands t_letters t_listedMany t_listN t_listWhat t_f_46 t_table t_twists_37) := hD
      refine lv_iconst (v := 0) hx hb dX11_turn_49 (by decide) ?_
      refine lv_istore_n (lv' := [(3, .int (0 : Int32)), (0, .ref h_t), (1, .int x1), (2, .int x2)]) hx hb dX11_turn_50 rfl hl (by decide) rfl (fun ls hl => ?_)
      obtain ⟨I51, m51, hI51, hB51⟩ := h
      have L51 : ∀ (x1 : Int32) (t_thrown : Int32) (t_n : Int32) (t_f : Nat → Int32) (t_twists : Nat → Int32) (I51 : Int32 → (Nat → Int32) → Prop) (m51 : Int32 → (Nat → Int32) → Nat), (∀ (x3 : Int32) (t_table : Nat → Int32), I51 x3 t_table → pX11_turn_51 K x1 t_thrown t_n t_f t_twists x3 t_table (fun x3' t_table' => I51 x3' t_table' ∧ m51 x3' t_table' < m51 x3 t_table)) → ∀ (n : Nat) (x3 : Int32) (t_table : Nat → Int32) (H : Heap) (locs : List Loc) (ls : Array Slot), I51 x3 t_table → m51 x3 t_table < n → va_P G vwCl (w_X11_turn Y h_t B_t t_thrown t_n t_modulus t_rows t_strands t_letters t_listedMany t_listN t_listWhat t_f t_table t_twists) H → va_D A (w_X11_turn Y h_t B_t t_thrown t_n t_modulus t_rows t_strands t_letters t_listedMany t_listN t_listWhat t_f t_table t_twists) → va_S A s.heap H locs → lv_has ls 5 [(0, .ref h_t), (1, .int x1), (3, .int x3)] → W p l e R s m args below meth c H locs 0 0 Q (F0 m 51 ls []) := by
        intro x1 t_thrown t_n t_f t_twists I51 m51 hB51 n
        induction n with
        | zero => intro x3 t_table H locs ls _ hm; exact absurd hm (Nat.not_lt_zero _)
        | succ n ih =>
          intro x3 t_table H locs ls hI hm hP hD hS hl
          obtain ⟨R51, h, rec51⟩ : ∃ R51 : Int32 → (Nat → Int32) → Prop, pX11_turn_51 K x1 t_thrown t_n t_f t_twists x3 t_table R51 ∧ ∀ (x3 : Int32) (t_table : Nat → Int32) (H : Heap) (locs : List Loc) (ls : Array Slot), R51 x3 t_table → va_P G vwCl (w_X11_turn Y h_t B_t t_thrown t_n t_modulus t_rows t_strands t_letters t_listedMany t_listN t_listWhat t_f t_table t_twists) H → va_D A (w_X11_turn Y h_t B_t t_thrown t_n t_modulus t_rows t_strands t_letters t_listedMany t_listN t_listWhat t_f t_table t_twists) → va_S A s.heap H locs → lv_has ls 5 [(0, .ref h_t), (1, .int x1), (3, .int x3)] → W p l e R s m args below meth c H locs 0 0 Q (F0 m 51 ls []) := ⟨_, hB51 x3 t_table hI, fun x3 t_table H locs ls hh hP hD hS hl => ih x3 t_table H locs ls hh.1 (Nat.lt_of_lt_of_le hh.2 (Nat.le_of_lt_succ hm)) hP hD hS hl⟩
          refine lv_iload_n hx hb dX11_turn_51 rfl (lv_at hl 2 rfl) ?_
          refine lv_iload_n hx hb dX11_turn_52 rfl (lv_at hl 1 rfl) ?_
          obtain ⟨ht, hf⟩ := h
          refine lv_icmp_ge (tgt := 96) hx hb dX11_turn_53 (by decide) (fun c9 => ?_) (fun c9 => ?_)
          · have h := ht c9
            refine lv_iconst (v := 1) hx hb dX11_turn_96 (by decide) ?_
            obtain ⟨hz, h⟩ := h
            exact hret (1 : Int32) t_thrown t_n t_f t_table t_twists H locs ls _ hP hD hS hz h dX11_turn_97
          · have h := hf c9
            refine lv_iconst (v := 0) hx hb dX11_turn_56 (by decide) ?_
            refine lv_istore (lv' := [(4, .int (0 : Int32)), (0, .ref h_t), (1, .int x1), (3, .int x3)]) hx hb dX11_turn_57 hl (by decide) rfl (fun ls hl => ?_)
            obtain ⟨I59, m59, hI59, hB59⟩ := h
            have L59 : ∀ (x3 : Int32) (I59 : Int32 → (Nat → Int32) → Prop) (m59 : Int32 → (Nat → Int32) → Nat), (∀ (x4 : Int32) (t_table : Nat → Int32), I59 x4 t_table → pX11_turn_59 R51 K x1 t_thrown t_n t_f t_twists x3 x4 t_table (fun x4' t_table' => I59 x4' t_table' ∧ m59 x4' t_table' < m59 x4 t_table)) → ∀ (n : Nat) (x4 : Int32) (t_table : Nat → Int32) (H : Heap) (locs : List Loc) (ls : Array Slot), I59 x4 t_table → m59 x4 t_table < n → va_P G vwCl (w_X11_turn Y h_t B_t t_thrown t_n t_modulus t_rows t_strands t_letters t_listedMany t_listN t_listWhat t_f t_table t_twists) H → va_D A (w_X11_turn Y h_t B_t t_thrown t_n t_modulus t_rows t_strands t_letters t_listedMany t_listN t_listWhat t_f t_table t_twists) → va_S A s.heap H locs → lv_has ls 5 [(0, .ref h_t), (1, .int x1), (3, .int x3), (4, .int x4)] → W p l e R s m args below meth c H locs 0 0 Q (F0 m 59 ls []) := by
              intro x3 I59 m59 hB59 n
              induction n with
              | zero => intro x4 t_table H locs ls _ hm; exact absurd hm (Nat.not_lt_zero _)
              | succ n ih =>
                intro x4 t_table H locs ls hI hm hP hD hS hl
                obtain ⟨R59, h, rec59⟩ : ∃ R59 : Int32 → (Nat → Int32) → Prop, pX11_turn_59 R51 K x1 t_thrown t_n t_f t_twists x3 x4 t_table R59 ∧ ∀ (x4 : Int32) (t_table : Nat → Int32) (H : Heap) (locs : List Loc) (ls : Array Slot), R59 x4 t_table → va_P G vwCl (w_X11_turn Y h_t B_t t_thrown t_n t_modulus t_rows t_strands t_letters t_listedMany t_listN t_listWhat t_f t_table t_twists) H → va_D A (w_X11_turn Y h_t B_t t_thrown t_n t_modulus t_rows t_strands t_letters t_listedMany t_listN t_listWhat t_f t_table t_twists) → va_S A s.heap H locs → lv_has ls 5 [(0, .ref h_t), (1, .int x1), (3, .int x3), (4, .int x4)] → W p l e R s m args below meth c H locs 0 0 Q (F0 m 59 ls []) := ⟨_, hB59 x4 t_table hI, fun x4 t_table H locs ls hh hP hD hS hl => ih x4 t_table H locs ls hh.1 (Nat.lt_of_lt_of_le hh.2 (Nat.le_of_lt_succ hm)) hP hD hS hl⟩
                refine lv_iload hx hb dX11_turn_59 (lv_at hl 3 rfl) ?_
                refine lv_iload_n hx hb dX11_turn_61 rfl (lv_at hl 1 rfl) ?_
                obtain ⟨ht, hf⟩ := h
                refine lv_icmp_ge (tgt := 90) hx hb dX11_turn_62 (by decide) (fun c9 => ?_) (fun c9 => ?_)
                · have h := ht c9
                  refine lv_iinc (v := (x3 + 1)) (lv' := [(3, .int (x3 + 1)), (0, .ref h_t), (1, .int x1), (4, .int x4)]) hx hb dX11_turn_90 hl (k := 2) rfl rfl (by decide) rfl (fun ls hl => ?_)
                  refine lv_goto (tgt := 51) hx hb dX11_turn_93 (by decide) ?_
                  exact rec51 (x3 + 1) t_table H locs ls h hP hD hS (lv_sub hl [1, 2, 0] rfl)
                · have h := hf c9
                  refine lv_aload_n hx hb dX11_turn_65 rfl (lv_at hl 0 rfl) ?_
                  refine va_get (D := G) (ci := 10) (v := .ref (B_t 2)) (C := RX11) (T := TX11) (N := 29) hx hb hts inX11 hown hK hP 0 rfl rfl 2 (by decide) hf13 (fun _ h9 => h9) rfl dX11_turn_66 ?_
                  refine lv_bipush (v := 8) hx hb dX11_turn_69 (by decide) ?_
                  refine lv_iload_n hx hb dX11_turn_71 rfl (lv_at hl 2 rfl) ?_
                  refine lv_imul hx hb dX11_turn_72 ?_
                  refine lv_iload hx hb dX11_turn_73 (lv_at hl 3 rfl) ?_
                  refine lv_iadd hx hb dX11_turn_75 ?_
                  refine lv_aload_n hx hb dX11_turn_76 rfl (lv_at hl 0 rfl) ?_
                  refine va_get (D := G) (ci := 10) (v := .ref (B_t 5)) (C := RX11) (T := TX11) (N := 29) hx hb hts inX11 hown hK hP 0 rfl rfl 5 (by decide) hf23 (fun _ h9 => h9) rfl dX11_turn_77 ?_
                  refine lv_iload hx hb dX11_turn_80 (lv_at hl 3 rfl) ?_
                  obtain ⟨hin, h⟩ := h
                  refine va_iald hx hb hK hP 1 0 rfl rfl hin dX11_turn_82 ?_
                  obtain ⟨hin, h⟩ := h
                  refine va_iast hx hb hK hP hD hS 2 0 rfl rfl hin dX11_turn_83 (fun H locs hP hD hS => ?_)
                  have hP : va_P G vwCl (w_X11_turn Y h_t B_t t_thrown t_n t_modulus t_rows t_strands t_letters t_listedMany t_listN t_listWhat t_f (upd t_table (Int32.toNatClampNeg (((8 : Int32) * x3) + x4)) (t_f (Int32.toNatClampNeg x4))) t_twists) H := hP
                  have hD : va_D A (w_X11_turn Y h_t B_t t_thrown t_n t_modulus t_rows t_strands t_letters t_listedMany t_listN t_listWhat t_f (upd t_table (Int32.toNatClampNeg (((8 : Int32) * x3) + x4)) (t_f (Int32.toNatClampNeg x4))) t_twists) := hD
                  refine lv_iinc (v := (x4 + 1)) (lv' := [(4, .int (x4 + 1)), (0, .ref h_t), (1, .int x1), (3, .int x3)]) hx hb dX11_turn_84 hl (k := 3) rfl rfl (by decide) rfl (fun ls hl => ?_)
                  refine lv_goto (tgt := 59) hx hb dX11_turn_87 (by decide) ?_
                  exact rec59 (x4 + 1) (upd t_table (Int32.toNatClampNeg (((8 : Int32) * x3) + x4)) (t_f (Int32.toNatClampNeg x4))) H locs ls h hP hD hS (lv_sub hl [1, 2, 3, 0] rfl)
            exact L59 x3 I59 m59 hB59 _ (0 : Int32) t_table H locs ls hI59 (Nat.lt_succ_self _) hP hD hS (lv_sub hl [1, 2, 3, 0] rfl)
      exact L51 x1 (0 : Int32) t_n_37 t_f_46 t_twists_37 I51 m51 hB51 _ (0 : Int32) t_table H locs ls hI51 (Nat.lt_succ_self _) hP hD hS (lv_sub hl [1, 2, 0] rfl)
    · have h := hf c9
      refine lv_iconst (v := 0) hx hb dX11_turn_33 (by decide) ?_
      obtain ⟨hz, h⟩ := h
      exact hret (0 : Int32) (0 : Int32) t_n t_f t_table t_twists H locs ls _ hP hD hS hz h dX11_turn_34

set_option maxHeartbeats 20000000 in
set_option maxRecDepth 100000 in
theorem c_X11_turn (l : Launch) (G : va_G) (Y : Nat → ClassId) (tF sz : Nat) (h_t : Nat) (B_t : Nat → Nat) (t_thrown : Int32) (t_n : Int32) (t_modulus : Int32) (t_rows : Int32) (t_strands : Int32) (t_letters : Int32) (t_listedMany : Int32) (t_listN : Int32) (t_listWhat : Int32) (t_f : Nat → Int32) (t_table : Nat → Int32) (t_twists : Nat → Int32) (x1 : Int32) (x2 : Int32) {K : Int32 → Int32 → Int32 → (Nat → Int32) → (Nat → Int32) → (Nat → Int32) → Prop} (h : pX11_turn t_thrown t_n t_f t_table t_twists x1 x2 K) : Met l yX11_turn wsX11_turn ({ frames := 12, cells := 0, slots := 0, locals := 248 }) (PcM G Y tF sz (w_X11_turn Y h_t B_t t_thrown t_n t_modulus t_rows t_strands t_letters t_listedMany t_listN t_listWhat t_f t_table t_twists) [.ref h_t, .int x1, .int x2]) (va_Qi (fun (r : Int32) (u : Int32 × Int32 × (Nat → Int32) × (Nat → Int32) × (Nat → Int32)) => K r u.1 u.2.1 u.2.2.1 u.2.2.2.1 u.2.2.2.2) (fun u t => BM G Y (va_A (w_X11_turn Y h_t B_t t_thrown t_n t_modulus t_rows t_strands t_letters t_listedMany t_listN t_listWhat t_f t_table t_twists) sz) (w_X11_turn Y h_t B_t u.1 u.2.1 t_modulus t_rows t_strands t_letters t_listedMany t_listN t_listWhat u.2.2.1 u.2.2.2.1 u.2.2.2.2) t) (va_A (w_X11_turn Y h_t B_t t_thrown t_n t_modulus t_rows t_strands t_letters t_listedMany t_listN t_listWhat t_f t_table t_twists) sz)) 0 0 (va_A (w_X11_turn Y h_t B_t t_thrown t_n t_modulus t_rows t_strands t_letters t_listedMany t_listN t_listWhat t_f t_table t_twists) sz) := by
  refine Met.ofW (cc := cX11_turn) (maxL := 5) (ret := (some .boolean)) (by decide +kernel) rfl ?_
  intro p e s m args below meth c s₁ B hml hv
  obtain ⟨rfl, hsz, hP, hK, hD0, hE⟩ := hv
  have hts := atoms_spec (ws := wsX11_turn) B.pre
  have hown : s.vm.findClass RX11 = some m.cls := findClass_of_methodNamed B.named
  have hlocks := B.notSynchronized
  subst hsz
  have hD := hD0.self (sz := s.heap.size)
  exact wk_X11_turn h_t B_t t_thrown t_n t_modulus t_rows t_strands t_letters t_listedMany t_listN t_listWhat t_f t_table t_twists x1 x2 B.exec B.bytes hml hown hts hK hE (fun q h => Or.inr h) (Nat.le_refl _) (Nat.le_refl _) (fun r t_thrown t_n t_f t_table t_twists H locs ls pc hP hD hS hz hk hd => W.zret (v := r) B.exec B.bytes B.returns hz.n (fun t ht hW => ⟨⟨r, (t_thrown, t_n, t_f, t_table, t_twists), rfl, hk, by rw [ht]; exact hP, va_K.moved hW.alike hK, hD⟩, hS.F ht⟩) hS.2.2 hd) hP hD h

abbrev w_X11_turnedBy (Y : Nat → ClassId) (h_t : Nat) (B_t : Nat → Nat) (t_thrown : Int32) (t_n : Int32) (t_modulus : Int32) (t_rows : Int32) (t_strands : Int32) (t_letters : Int32) (t_listedMany : Int32) (t_listN : Int32) (t_listWhat : Int32) (t_f : Nat → Int32) (t_g : Nat → Int32) (t_h : Nat → Int32) : va_W := [(h_t, .inr (10, [.int t_thrown, .int t_n, .ref (B_t 2), .int t_modulus, .ref (B_t 4), .ref (B_t 5), .ref (B_t 6), .ref (B_t 7), .ref (B_t 8), .ref (B_t 9), .ref (B_t 10), .int t_rows, .ref (B_t 12), .ref (B_t 13), .ref (B_t 14), .ref (B_t 15), .ref (B_t 16), .ref (B_t 17), .ref (B_t 18), .ref (B_t 19), .int t_strands, .int t_letters, .ref (B_t 22), .ref (B_t 23), .ref (B_t 24), .ref (B_t 25), .int t_listedMany, .int t_listN, .int t_listWhat])), ((B_t 5), .inl (Y 0, 8, .inl t_f)), ((B_t 6), .inl (Y 0, 8, .inl t_g)), ((B_t 7), .inl (Y 0, 8, .inl t_h))]

set_option maxHeartbeats 20000000 in
set_option maxRecDepth 100000 in
theorem wk_X11_turnedBy {p : Program} {l : Launch} {e : Env} {R : Room} {s : State} {m : MethodId} {args : Array Value} {below : List Frame} {meth : Method} {c : Code} {Q : State → Prop} {G : va_G} {Y : Nat → ClassId} {tF : Nat} {A : Nat → Prop} (h_t : Nat) (B_t : Nat → Nat) (t_thrown : Int32) (t_n : Int32) (t_modulus : Int32) (t_rows : Int32) (t_strands : Int32) (t_letters : Int32) (t_listedMany : Int32) (t_listN : Int32) (t_listWhat : Int32) (t_f : Nat → Int32) (t_g : Nat → Int32) (t_h : Nat → Int32) (x1 : Int32) (x2 : Int32) {K : Int32 → (Nat → Int32) → (Nat → Int32) → (Nat → Int32) → Prop} (hx : p.tables.exec = Jvm.exec) (hb : c.code = cX11_turnedBy) (hml : c.maxLocals = 4) (hown : s.vm.findClass RX11 = some m.cls) (hts : ∀ w ∈ wsX11_turnedBy, w.before args s = true) (hK : va_K G vwCl (tyL Y) s) (hE : Ev A tF s) (hA : ∀ q, s.heap.size ≤ q → A q) (hRf : 12 ≤ R.frames) (hRl : 248 ≤ R.locals) (hret : ∀ (r : Int32) (t_f : Nat → Int32) (t_g : Nat → Int32) (t_h : Nat → Int32) (H : Heap) (locs : List Loc) (ls : Array Slot) (pc : Nat), va_P G vwCl (w_X11_turnedBy Y h_t B_t t_thrown t_n t_modulus t_rows t_strands t_letters t_listedMany t_listN t_listWhat t_f t_g t_h) H → va_D A (w_X11_turnedBy Y h_t B_t t_thrown t_n t_modulus t_rows t_strands t_letters t_listedMany t_listN t_listWhat t_f t_g t_h) → va_S A s.heap H locs → K r t_f t_g t_h → decode cX11_turnedBy pc = .ok (.ireturn, 1) → W p l e R s m args below meth c H locs 0 0 Q (F0 m pc ls [.int r])) (hP : va_P G vwCl (w_X11_turnedBy Y h_t B_t t_thrown t_n t_modulus t_rows t_strands t_letters t_listedMany t_listN t_listWhat t_f t_g t_h) s.heap) (hD : va_D A (w_X11_turnedBy Y h_t B_t t_thrown t_n t_modulus t_rows t_strands t_letters t_listedMany t_listN t_listWhat t_f t_g t_h)) (h : pX11_turnedBy t_f t_g t_h x1 x2 K) : W p l e R s m args below meth c s.heap [] 0 0 Q (entryFrame m ([.ref h_t, .int x1, .int x2] : List Value).toArray 4) := by
  have inX11 : ∀ w ∈ u_ws RX11 TX11 29, w ∈ wsX11_turnedBy := by decide +kernel
  have hf23 := hts (.fieldLink RX11 23 "RackBenchModel" "f" "[I") (by decide +kernel)
  have hf26 := hts (.fieldLink RX11 26 "RackBenchModel" "g" "[I") (by decide +kernel)
  have hf29 := hts (.fieldLink RX11 29 "RackBenchModel" "h" "[I") (by decide +kernel)
  have hl := lv_entry ([.ref h_t, .int x1, .int x2]) (n := 4) (Nat.le_of_ble_eq_true rfl)
  rw [lg_entry_eq]
  generalize (lg_sl ([.ref h_t, .int x1, .int x2]) ++ List.replicate (4 - (lg_sl ([.ref h_t, .int x1, .int x2])).length) Slot.unset).toArray = ls at hl ⊢
  have hl : lv_has ls 4 [(0, .ref h_t), (1, .int x1), (2, .int x2)] := hl
  generalize hH0 : s.heap = H at hP ⊢
  have hS : va_S A s.heap H [] := by rw [← hH0]; exact va_S.rf
  clear hH0
  generalize ([] : List Loc) = locs at hS ⊢
  refine lv_iconst (v := 4) hx hb dX11_turnedBy_0 (by decide) ?_
  refine lv_iload_n hx hb dX11_turnedBy_1 rfl (lv_at hl 1 rfl) ?_
  refine lv_aload_n hx hb dX11_turnedBy_2 rfl (lv_at hl 0 rfl) ?_
  refine va_get (D := G) (ci := 10) (v := .ref (B_t 5)) (C := RX11) (T := TX11) (N := 29) hx hb hts inX11 hown hK hP 0 rfl rfl 5 (by decide) hf23 (fun _ h9 => h9) rfl dX11_turnedBy_3 ?_
  refine mc_vS ⟨hx, hb, hml, hown, hts⟩ hK hE hA hP hD hS (c_X11_permutation l G Y tF H.size (B_t 5) 8 t_f (4 : Int32) x1 h) (va_cwS 3 hts gX11_turnedBy_X11_permutation rfl rfl rfl (by decide +kernel) ⟨Nat.le_trans (by decide) hRf, Nat.le_trans (by decide) hRl⟩) (fun u => (w_X11_turnedBy Y h_t B_t t_thrown t_n t_modulus t_rows t_strands t_letters t_listedMany t_listN t_listWhat u t_g t_h)) [1] [0, 2, 3] [0, 3, 1, 2] rfl rfl rfl rfl (by decide) (fun _ => rfl) rfl rfl hl.1 rfl (Nat.le_of_ble_eq_true rfl) dX11_turnedBy_6 (fun u H locs h hP hD hS => ?_)
  obtain ⟨t_f_6, rfl⟩ : ∃ z, z = u := ⟨_, rfl⟩
  try dsimp only at h
  have hP : va_P G vwCl (w_X11_turnedBy Y h_t B_t t_thrown t_n t_modulus t_rows t_strands t_letters t_listedMany t_listN t_listWhat t_f_6 t_g t_h) H := hP
  have hD : va_D A (w_X11_turnedBy Y h_t B_t t_thrown t_n t_modulus t_rows t_strands t_letters t_listedMany t_listN t_listWhat t_f_6 t_g t_h) := hD
  refine lv_iconst (v := 4) hx hb dX11_turnedBy_9 (by decide) ?_
  refine lv_iload_n hx hb dX11_turnedBy_10 rfl (lv_at hl 2 rfl) ?_
  refine lv_aload_n hx hb dX11_turnedBy_11 rfl (lv_at hl 0 rfl) ?_
  refine va_get (D := G) (ci := 10) (v := .ref (B_t 6)) (C := RX11) (T := TX11) (N := 29) hx hb hts inX11 hown hK hP 0 rfl rfl 6 (by decide) hf26 (fun _ h9 => h9) rfl dX11_turnedBy_12 ?_
  refine mc_vS ⟨hx, hb, hml, hown, hts⟩ hK hE hA hP hD hS (c_X11_permutation l G Y tF H.size (B_t 6) 8 t_g (4 : Int32) x2 h) (va_cwS 3 hts gX11_turnedBy_X11_permutation rfl rfl rfl (by decide +kernel) ⟨Nat.le_trans (by decide) hRf, Nat.le_trans (by decide) hRl⟩) (fun u => (w_X11_turnedBy Y h_t B_t t_thrown t_n t_modulus t_rows t_strands t_letters t_listedMany t_listN t_listWhat t_f_6 u t_h)) [2] [0, 1, 3] [0, 1, 3, 2] rfl rfl rfl rfl (by decide) (fun _ => rfl) rfl rfl hl.1 rfl (Nat.le_of_ble_eq_true rfl) dX11_turnedBy_15 (fun u H locs h hP hD hS => ?_)
  obtain ⟨t_g_15, rfl⟩ : ∃ z, z = u := ⟨_, rfl⟩
  try dsimp only at h
  have hP : va_P G vwCl (w_X11_turnedBy Y h_t B_t t_thrown t_n t_modulus t_rows t_strands t_letters t_listedMany t_listN t_listWhat t_f_6 t_g_15 t_h) H := hP
  have hD : va_D A (w_X11_turnedBy Y h_t B_t t_thrown t_n t_modulus t_rows t_strands t_letters t_listedMany t_listN t_listWhat t_f_6 t_g_15 t_h) := hD
  refine lv_iconst (v := 0) hx hb dX11_turnedBy_18 (by decide) ?_
  refine lv_istore_n (lv' := [(3, .int (0 : Int32)), (0, .ref h_t), (1, .int x1), (2, .int x2)]) hx hb dX11_turnedBy_19 rfl hl (by decide) rfl (fun ls hl => ?_)
  obtain ⟨I20, m20, hI20, hB20⟩ := h
  have L20 : ∀ (t_f : Nat → Int32) (t_g : Nat → Int32) (I20 : Int32 → (Nat → Int32) → Prop) (m20 : Int32 → (Nat → Int32) → Nat), (∀ (x3 : Int32) (t_h : Nat → Int32), I20 x3 t_h → pX11_turnedBy_20 K t_f t_g x3 t_h (fun x3' t_h' => I20 x3' t_h' ∧ m20 x3' t_h' < m20 x3 t_h)) → ∀ (n : Nat) (x3 : Int32) (t_h : Nat → Int32) (H : Heap) (locs : List Loc) (ls : Array Slot), I20 x3 t_h → m20 x3 t_h < n → va_P G vwCl (w_X11_turnedBy Y h_t B_t t_thrown t_n t_modulus t_rows t_strands t_letters t_listedMany t_listN t_listWhat t_f t_g t_h) H → va_D A (w_X11_turnedBy Y h_t B_t t_thrown t_n t_modulus t_rows t_strands t_letters t_listedMany t_listN t_listWhat t_f t_g t_h) → va_S A s.heap H locs → lv_has ls 4 [(0, .ref h_t), (3, .int x3)] → W p l e R s m args below meth c H locs 0 0 Q (F0 m 20 ls []) := by
    intro t_f t_g I20 m20 hB20 n
    induction n with
    | zero => intro x3 t_h H locs ls _ hm; exact absurd hm (Nat.not_lt_zero _)
    | succ n ih =>
      intro x3 t_h H locs ls hI hm hP hD hS hl
      obtain ⟨R20, h, rec20⟩ : ∃ R20 : Int32 → (Nat → Int32) → Prop, pX11_turnedBy_20 K t_f t_g x3 t_h R20 ∧ ∀ (x3 : Int32) (t_h : Nat → Int32) (H : Heap) (locs : List Loc) (ls : Array Slot), R20 x3 t_h → va_P G vwCl (w_X11_turnedBy Y h_t B_t t_thrown t_n t_modulus t_rows t_strands t_letters t_listedMany t_listN t_listWhat t_f t_g t_h) H → va_D A (w_X11_turnedBy Y h_t B_t t_thrown t_n t_modulus t_rows t_strands t_letters t_listedMany t_listN t_listWhat t_f t_g t_h) → va_S A s.heap H locs → lv_has ls 4 [(0, .ref h_t), (3, .int x3)] → W p l e R s m args below meth c H locs 0 0 Q (F0 m 20 ls []) := ⟨_, hB20 x3 t_h hI, fun x3 t_h H locs ls hh hP hD hS hl => ih x3 t_h H locs ls hh.1 (Nat.lt_of_lt_of_le hh.2 (Nat.le_of_lt_succ hm)) hP hD hS hl⟩
      refine lv_iload_n hx hb dX11_turnedBy_20 rfl (lv_at hl 1 rfl) ?_
      refine lv_iconst (v := 4) hx hb dX11_turnedBy_21 (by decide) ?_
      obtain ⟨ht, hf⟩ := h
      refine lv_icmp_ge (tgt := 53) hx hb dX11_turnedBy_22 (by decide) (fun c9 => ?_) (fun c9 => ?_)
      · have h := ht c9
        refine lv_iconst (v := 4) hx hb dX11_turnedBy_53 (by decide) ?_
        refine lv_aload_n hx hb dX11_turnedBy_54 rfl (lv_at hl 0 rfl) ?_
        refine va_get (D := G) (ci := 10) (v := .ref (B_t 7)) (C := RX11) (T := TX11) (N := 29) hx hb hts inX11 hown hK hP 0 rfl rfl 7 (by decide) hf29 (fun _ h9 => h9) rfl dX11_turnedBy_55 ?_
        refine mc_iS ⟨hx, hb, hml, hown, hts⟩ hK hE hA hP hD hS (c_X11_numberOf l G Y tF H.size (B_t 7) 8 t_h (4 : Int32) h) (va_cwS 2 hts gX11_turnedBy_X11_numberOf rfl rfl rfl (by decide +kernel) ⟨Nat.le_trans (by decide) hRf, Nat.le_trans (by decide) hRl⟩) (fun u => (w_X11_turnedBy Y h_t B_t t_thrown t_n t_modulus t_rows t_strands t_letters t_listedMany t_listN t_listWhat t_f t_g t_h)) [3] [0, 1, 2] [0, 1, 2, 3] rfl rfl rfl rfl (by decide) (fun _ => rfl) rfl rfl hl.1 rfl (Nat.le_of_ble_eq_true rfl) dX11_turnedBy_58 (fun r58 u H locs h hP hD hS => ?_)
        try dsimp only at h
        have hP : va_P G vwCl (w_X11_turnedBy Y h_t B_t t_thrown t_n t_modulus t_rows t_strands t_letters t_listedMany t_listN t_listWhat t_f t_g t_h) H := hP
        have hD : va_D A (w_X11_turnedBy Y h_t B_t t_thrown t_n t_modulus t_rows t_strands t_letters t_listedMany t_listN t_listWhat t_f t_g t_h) := hD
        exact hret r58 t_f t_g t_h H locs ls _ hP hD hS h dX11_turnedBy_61
      · have h := hf c9
        refine lv_aload_n hx hb dX11_turnedBy_25 rfl (lv_at hl 0 rfl) ?_
        refine va_get (D := G) (ci := 10) (v := .ref (B_t 7)) (C := RX11) (T := TX11) (N := 29) hx hb hts inX11 hown hK hP 0 rfl rfl 7 (by decide) hf29 (fun _ h9 => h9) rfl dX11_turnedBy_26 ?_
        refine lv_aload_n hx hb dX11_turnedBy_29 rfl (lv_at hl 0 rfl) ?_
        refine va_get (D := G) (ci := 10) (v := .ref (B_t 5)) (C := RX11) (T := TX11) (N := 29) hx hb hts inX11 hown hK hP 0 rfl rfl 5 (by decide) hf23 (fun _ h9 => h9) rfl dX11_turnedBy_30 ?_
        refine lv_iload_n hx hb dX11_turnedBy_33 rfl (lv_at hl 1 rfl) ?_
        obtain ⟨hin, h⟩ := h
        refine va_iald hx hb hK hP 1 0 rfl rfl hin dX11_turnedBy_34 ?_
        refine lv_aload_n hx hb dX11_turnedBy_35 rfl (lv_at hl 0 rfl) ?_
        refine va_get (D := G) (ci := 10) (v := .ref (B_t 5)) (C := RX11) (T := TX11) (N := 29) hx hb hts inX11 hown hK hP 0 rfl rfl 5 (by decide) hf23 (fun _ h9 => h9) rfl dX11_turnedBy_36 ?_
        refine lv_aload_n hx hb dX11_turnedBy_39 rfl (lv_at hl 0 rfl) ?_
        refine va_get (D := G) (ci := 10) (v := .ref (B_t 6)) (C := RX11) (T := TX11) (N := 29) hx hb hts inX11 hown hK hP 0 rfl rfl 6 (by decide) hf26 (fun _ h9 => h9) rfl dX11_turnedBy_40 ?_
        refine lv_iload_n hx hb dX11_turnedBy_43 rfl (lv_at hl 1 rfl) ?_
        obtain ⟨hin, h⟩ := h
        refine va_iald hx hb hK hP 2 0 rfl rfl hin dX11_turnedBy_44 ?_
        obtain ⟨hin, h⟩ := h
        refine va_iald hx hb hK hP 1 0 rfl rfl hin dX11_turnedBy_45 ?_
        obtain ⟨hin, h⟩ := h
        refine va_iast hx hb hK hP hD hS 3 0 rfl rfl hin dX11_turnedBy_46 (fun H locs hP hD hS => ?_)
        have hP : va_P G vwCl (w_X11_turnedBy Y h_t B_t t_thrown t_n t_modulus t_rows t_strands t_letters t_listedMany t_listN t_listWhat t_f t_g (upd t_h (Int32.toNatClampNeg (t_f (Int32.toNatClampNeg x3))) (t_f (Int32.toNatClampNeg (t_g (Int32.toNatClampNeg x3)))))) H := hP
        have hD : va_D A (w_X11_turnedBy Y h_t B_t t_thrown t_n t_modulus t_rows t_strands t_letters t_listedMany t_listN t_listWhat t_f t_g (upd t_h (Int32.toNatClampNeg (t_f (Int32.toNatClampNeg x3))) (t_f (Int32.toNatClampNeg (t_g (Int32.toNatClampNeg x3)))))) := hD
        refine lv_iinc (v := (x3 + 1)) (lv' := [(3, .int (x3 + 1)), (0, .ref h_t)]) hx hb dX11_turnedBy_47 hl (k := 1) rfl rfl (by decide) rfl (fun ls hl => ?_)
        refine lv_goto (tgt := 20) hx hb dX11_turnedBy_50 (by decide) ?_
        exact rec20 (x3 + 1) (upd t_h (Int32.toNatClampNeg (t_f (Int32.toNatClampNeg x3))) (t_f (Int32.toNatClampNeg (t_g (Int32.toNatClampNeg x3))))) H locs ls h hP hD hS (lv_sub hl [1, 0] rfl)
  exact L20 t_f_6 t_g_15 I20 m20 hB20 _ (0 : Int32) t_h H locs ls hI20 (Nat.lt_succ_self _) hP hD hS (lv_sub hl [1, 0] rfl)

set_option maxHeartbeats 20000000 in
set_option maxRecDepth 100000 in
theorem c_X11_turnedBy (l : Launch) (G : va_G) (Y : Nat → ClassId) (tF sz : Nat) (h_t : Nat) (B_t : Nat → Nat) (t_thrown : Int32) (t_n : Int32) (t_modulus : Int32) (t_rows : Int32) (t_strands : Int32) (t_letters : Int32) (t_listedMany : Int32) (t_listN : Int32) (t_listWhat : Int32) (t_f : Nat → Int32) (t_g : Nat → Int32) (t_h : Nat → Int32) (x1 : Int32) (x2 : Int32) {K : Int32 → (Nat → Int32) → (Nat → Int32) → (Nat → Int32) → Prop} (h : pX11_turnedBy t_f t_g t_h x1 x2 K) : Met l yX11_turnedBy wsX11_turnedBy ({ frames := 12, cells := 0, slots := 0, locals := 248 }) (PcM G Y tF sz (w_X11_turnedBy Y h_t B_t t_thrown t_n t_modulus t_rows t_strands t_letters t_listedMany t_listN t_listWhat t_f t_g t_h) [.ref h_t, .int x1, .int x2]) (va_Qi (fun (r : Int32) (u : (Nat → Int32) × (Nat → Int32) × (Nat → Int32)) => K r u.1 u.2.1 u.2.2) (fun u t => BM G Y (va_A (w_X11_turnedBy Y h_t B_t t_thrown t_n t_modulus t_rows t_strands t_letters t_listedMany t_listN t_listWhat t_f t_g t_h) sz) (w_X11_turnedBy Y h_t B_t t_thrown t_n t_modulus t_rows t_strands t_letters t_listedMany t_listN t_listWhat u.1 u.2.1 u.2.2) t) (va_A (w_X11_turnedBy Y h_t B_t t_thrown t_n t_modulus t_rows t_strands t_letters t_listedMany t_listN t_listWhat t_f t_g t_h) sz)) 0 0 (va_A (w_X11_turnedBy Y h_t B_t t_thrown t_n t_modulus t_rows t_strands t_letters t_listedMany t_listN t_listWhat t_f t_g t_h) sz) := by
  refine Met.ofW (cc := cX11_turnedBy) (maxL := 4) (ret := (some .int)) (by decide +kernel) rfl ?_
  intro p e s m args below meth c s₁ B hml hv
  obtain ⟨rfl, hsz, hP, hK, hD0, hE⟩ := hv
  have hts := atoms_spec (ws := wsX11_turnedBy) B.pre
  have hown : s.vm.findClass RX11 = some m.cls := findClass_of_methodNamed B.named
  have hlocks := B.notSynchronized
  subst hsz
  have hD := hD0.self (sz := s.heap.size)
  exact wk_X11_turnedBy h_t B_t t_thrown t_n t_modulus t_rows t_strands t_letters t_listedMany t_listN t_listWhat t_f t_g t_h x1 x2 B.exec B.bytes hml hown hts hK hE (fun q h => Or.inr h) (Nat.le_refl _) (Nat.le_refl _) (fun r t_f t_g t_h H locs ls pc hP hD hS hk hd => W.iret (v := r) B.exec B.bytes B.returns (fun t ht hW => ⟨⟨r, (t_f, t_g, t_h), rfl, hk, by rw [ht]; exact hP, va_K.moved hW.alike hK, hD⟩, hS.F ht⟩) hS.2.2 hd) hP hD h

abbrev w_X11_group (Y : Nat → ClassId) (h_t : Nat) (B_t : Nat → Nat) (t_thrown : Int32) (t_n : Int32) (t_modulus : Int32) (t_rows : Int32) (t_strands : Int32) (t_letters : Int32) (t_listedMany : Int32) (t_listN : Int32) (t_listWhat : Int32) (t_f : Nat → Int32) (t_g : Nat → Int32) (t_h : Nat → Int32) (t_members : Nat → Int32) (t_table : Nat → Int32) (t_twists : Nat → Int32) : va_W := [(h_t, .inr (10, [.int t_thrown, .int t_n, .ref (B_t 2), .int t_modulus, .ref (B_t 4), .ref (B_t 5), .ref (B_t 6), .ref (B_t 7), .ref (B_t 8), .ref (B_t 9), .ref (B_t 10), .int t_rows, .ref (B_t 12), .ref (B_t 13), .ref (B_t 14), .ref (B_t 15), .ref (B_t 16), .ref (B_t 17), .ref (B_t 18), .ref (B_t 19), .int t_strands, .int t_letters, .ref (B_t 22), .ref (B_t 23), .ref (B_t 24), .ref (B_t 25), .int t_listedMany, .int t_listN, .int t_listWhat])), ((B_t 5), .inl (Y 0, 8, .inl t_f)), ((B_t 6), .inl (Y 0, 8, .inl t_g)), ((B_t 7), .inl (Y 0, 8, .inl t_h)), ((B_t 8), .inl (Y 0, 8, .inl t_members)), ((B_t 2), .inl (Y 0, 64, .inl t_table)), ((B_t 4), .inl (Y 0, 64, .inl t_twists))]

set_option maxHeartbeats 20000000 in
set_option maxRecDepth 100000 in
theorem wk_X11_group {p : Program} {l : Launch} {e : Env} {R : Room} {s : State} {m : MethodId} {args : Array Value} {below : List Frame} {meth : Method} {c : Code} {Q : State → Prop} {G : va_G} {Y : Nat → ClassId} {tF : Nat} {A : Nat → Prop} (h_t : Nat) (B_t : Nat → Nat) (t_thrown : Int32) (t_n : Int32) (t_modulus : Int32) (t_rows : Int32) (t_strands : Int32) (t_letters : Int32) (t_listedMany : Int32) (t_listN : Int32) (t_listWhat : Int32) (t_f : Nat → Int32) (t_g : Nat → Int32) (t_h : Nat → Int32) (t_members : Nat → Int32) (t_table : Nat → Int32) (t_twists : Nat → Int32) (x1 : Int32) {K : Int32 → Int32 → Int32 → (Nat → Int32) → (Nat → Int32) → (Nat → Int32) → (Nat → Int32) → (Nat → Int32) → (Nat → Int32) → Prop} (hx : p.tables.exec = Jvm.exec) (hb : c.code = cX11_group) (hml : c.maxLocals = 8) (hown : s.vm.findClass RX11 = some m.cls) (hts : ∀ w ∈ wsX11_group, w.before args s = true) (hK : va_K G vwCl (tyL Y) s) (hE : Ev A tF s) (hA : ∀ q, s.heap.size ≤ q → A q) (hRf : 13 ≤ R.frames) (hRl : 271 ≤ R.locals) (hret : ∀ (r : Int32) (t_thrown : Int32) (t_n : Int32) (t_f : Nat → Int32) (t_g : Nat → Int32) (t_h : Nat → Int32) (t_members : Nat → Int32) (t_table : Nat → Int32) (t_twists : Nat → Int32) (H : Heap) (locs : List Loc) (ls : Array Slot) (pc : Nat), va_P G vwCl (w_X11_group Y h_t B_t t_thrown t_n t_modulus t_rows t_strands t_letters t_listedMany t_listN t_listWhat t_f t_g t_h t_members t_table t_twists) H → va_D A (w_X11_group Y h_t B_t t_thrown t_n t_modulus t_rows t_strands t_letters t_listedMany t_listN t_listWhat t_f t_g t_h t_members t_table t_twists) → va_S A s.heap H locs → K r t_thrown t_n t_f t_g t_h t_members t_table t_twists → decode cX11_group pc = .ok (.ireturn, 1) → W p l e R s m args below meth c H locs 0 0 Q (F0 m pc ls [.int r])) (hP : va_P G vwCl (w_X11_group Y h_t B_t t_thrown t_n t_modulus t_rows t_strands t_letters t_listedMany t_listN t_listWhat t_f t_g t_h t_members t_table t_twists) s.heap) (hD : va_D A (w_X11_group Y h_t B_t t_thrown t_n t_modulus t_rows t_strands t_letters t_listedMany t_listN t_listWhat t_f t_g t_h t_members t_table t_twists)) (h : pX11_group t_thrown t_n t_f t_g t_h t_members t_table t_twists x1 K) : W p l e R s m args below meth c s.heap [] 0 0 Q (entryFrame m ([.ref h_t, .int x1] : List Value).toArray 8) := by
  have inX11 : ∀ w ∈ u_ws RX11 TX11 29, w ∈ wsX11_group := by decide +kernel
  have hf13 := hts (.fieldLink RX11 13 "RackBenchModel" "table" "[I") (by decide +kernel)
  have hf32 := hts (.fieldLink RX11 32 "RackBenchModel" "members" "[I") (by decide +kernel)
  have hf83 := hts (.fieldLink RX11 83 "RackBenchModel" "thrown" "I") (by decide +kernel)
  have hf9 := hts (.fieldLink RX11 9 "RackBenchModel" "n" "I") (by decide +kernel)
  have hcL131 := hts (.constantLong RX11 131 (23)) (by decide +kernel)
  have hl := lv_entry ([.ref h_t, .int x1]) (n := 8) (Nat.le_of_ble_eq_true rfl)
  rw [lg_entry_eq]
  generalize (lg_sl ([.ref h_t, .int x1]) ++ List.replicate (8 - (lg_sl ([.ref h_t, .int x1])).length) Slot.unset).toArray = ls at hl ⊢
  have hl : lv_has ls 8 [(0, .ref h_t), (1, .int x1)] := hl
  generalize hH0 : s.heap = H at hP ⊢
  have hS : va_S A s.heap H [] := by rw [← hH0]; exact va_S.rf
  clear hH0
  generalize ([] : List Loc) = locs at hS ⊢
  refine lv_aload_n hx hb dX11_group_0 rfl (lv_at hl 0 rfl) ?_
  refine lv_iconst (v := 0) hx hb dX11_group_1 (by decide) ?_
  refine va_put (D := G) (ci := 10) (v := .int (0 : Int32)) (ty := .int) (C := RX11) (T := TX11) (N := 29) hx hb hts inX11 tyX11 tyX11_ok nmX11 hown hK hP hD hS 0 rfl rfl 0 (by decide) hf83 (fun _ h9 => h9) rfl (by decide +kernel) rfl rfl (Nat.le_of_ble_eq_true rfl) dX11_group_2 (fun H locs hP hD hS => ?_)
  have hP : va_P G vwCl (w_X11_group Y h_t B_t (0 : Int32) t_n t_modulus t_rows t_strands t_letters t_listedMany t_listN t_listWhat t_f t_g t_h t_members t_table t_twists) H := hP
  have hD : va_D A (w_X11_group Y h_t B_t (0 : Int32) t_n t_modulus t_rows t_strands t_letters t_listedMany t_listN t_listWhat t_f t_g t_h t_members t_table t_twists) := hD
  refine lv_iload_n hx hb dX11_group_5 rfl (lv_at hl 1 rfl) ?_
  refine lv_i2l hx hb dX11_group_6 rfl ?_
  refine lv_lconst (v := 0) hx hb dX11_group_7 (by decide) ?_
  refine lv_ldc2 (v := 23) hx hb hown hcL131 dX11_group_8 ?_
  refine mc_iS ⟨hx, hb, hml, hown, hts⟩ hK hE hA hP hD hS (c_X11_in l G Y tF H.size (Int32.toInt64 x1) (0 : Int64) (23 : Int64) h) (va_cwS 3 hts gX11_group_X11_in rfl rfl rfl (by decide +kernel) ⟨Nat.le_trans (by decide) hRf, Nat.le_trans (by decide) hRl⟩) (fun u => (w_X11_group Y h_t B_t (0 : Int32) t_n t_modulus t_rows t_strands t_letters t_listedMany t_listN t_listWhat t_f t_g t_h t_members t_table t_twists)) [] [0, 1, 2, 3, 4, 5, 6] [0, 1, 2, 3, 4, 5, 6] rfl rfl rfl rfl (by decide) (fun _ => rfl) rfl rfl hl.1 rfl (Nat.le_of_ble_eq_true rfl) dX11_group_11 (fun r11 u H locs h hP hD hS => ?_)
  try dsimp only at h
  have hP : va_P G vwCl (w_X11_group Y h_t B_t (0 : Int32) t_n t_modulus t_rows t_strands t_letters t_listedMany t_listN t_listWhat t_f t_g t_h t_members t_table t_twists) H := hP
  have hD : va_D A (w_X11_group Y h_t B_t (0 : Int32) t_n t_modulus t_rows t_strands t_letters t_listedMany t_listN t_listWhat t_f t_g t_h t_members t_table t_twists) := hD
  obtain ⟨ht, hf⟩ := h
  refine lv_if_ne (tgt := 19) hx hb dX11_group_14 (by decide) (fun c9 => ?_) (fun c9 => ?_)
  · have h := ht c9
    refine lv_iconst (v := 0) hx hb dX11_group_19 (by decide) ?_
    refine lv_istore_n (lv' := [(2, .int (0 : Int32)), (0, .ref h_t), (1, .int x1)]) hx hb dX11_group_20 rfl hl (by decide) rfl (fun ls hl => ?_)
    refine lv_iconst (v := 0) hx hb dX11_group_21 (by decide) ?_
    refine lv_istore_n (lv' := [(3, .int (0 : Int32)), (2, .int (0 : Int32)), (0, .ref h_t), (1, .int x1)]) hx hb dX11_group_22 rfl hl (by decide) rfl (fun ls hl => ?_)
    obtain ⟨I23, m23, hI23, hB23⟩ := h
    have L23 : ∀ (x1 : Int32) (t_thrown : Int32) (t_n : Int32) (t_members : Nat → Int32) (t_table : Nat → Int32) (t_twists : Nat → Int32) (I23 : Int32 → Int32 → (Nat → Int32) → (Nat → Int32) → (Nat → Int32) → Prop) (m23 : Int32 → Int32 → (Nat → Int32) → (Nat → Int32) → (Nat → Int32) → Nat), (∀ (x2 : Int32) (x3 : Int32) (t_f : Nat → Int32) (t_g : Nat → Int32) (t_h : Nat → Int32), I23 x2 x3 t_f t_g t_h → pX11_group_23 K x1 t_thrown t_n t_members t_table t_twists x2 x3 t_f t_g t_h (fun x2' x3' t_f' t_g' t_h' => I23 x2' x3' t_f' t_g' t_h' ∧ m23 x2' x3' t_f' t_g' t_h' < m23 x2 x3 t_f t_g t_h)) → ∀ (n : Nat) (x2 : Int32) (x3 : Int32) (t_f : Nat → Int32) (t_g : Nat → Int32) (t_h : Nat → Int32) (H : Heap) (locs : List Loc) (ls : Array Slot), I23 x2 x3 t_f t_g t_h → m23 x2 x3 t_f t_g t_h < n → va_P G vwCl (w_X11_group Y h_t B_t t_thrown t_n t_modulus t_rows t_strands t_letters t_listedMany t_listN t_listWhat t_f t_g t_h t_members t_table t_twists) H → va_D A (w_X11_group Y h_t B_t t_thrown t_n t_modulus t_rows t_strands t_letters t_listedMany t_listN t_listWhat t_f t_g t_h t_members t_table t_twists) → va_S A s.heap H locs → lv_has ls 8 [(0, .ref h_t), (1, .int x1), (2, .int x2), (3, .int x3)] → W p l e R s m args below meth c H locs 0 0 Q (F0 m 23 ls []) := by
      intro x1 t_thrown t_n t_members t_table t_twists I23 m23 hB23 n
      induction n with
      | zero => intro x2 x3 t_f t_g t_h H locs ls _ hm; exact absurd hm (Nat.not_lt_zero _)
      | succ n ih =>
        intro x2 x3 t_f t_g t_h H locs ls hI hm hP hD hS hl
        obtain ⟨R23, h, rec23⟩ : ∃ R23 : Int32 → Int32 → (Nat → Int32) → (Nat → Int32) → (Nat → Int32) → Prop, pX11_group_23 K x1 t_thrown t_n t_members t_table t_twists x2 x3 t_f t_g t_h R23 ∧ ∀ (x2 : Int32) (x3 : Int32) (t_f : Nat → Int32) (t_g : Nat → Int32) (t_h : Nat → Int32) (H : Heap) (locs : List Loc) (ls : Array Slot), R23 x2 x3 t_f t_g t_h → va_P G vwCl (w_X11_group Y h_t B_t t_thrown t_n t_modulus t_rows t_strands t_letters t_listedMany t_listN t_listWhat t_f t_g t_h t_members t_table t_twists) H → va_D A (w_X11_group Y h_t B_t t_thrown t_n t_modulus t_rows t_strands t_letters t_listedMany t_listN t_listWhat t_f t_g t_h t_members t_table t_twists) → va_S A s.heap H locs → lv_has ls 8 [(0, .ref h_t), (1, .int x1), (2, .int x2), (3, .int x3)] → W p l e R s m args below meth c H locs 0 0 Q (F0 m 23 ls []) := ⟨_, hB23 x2 x3 t_f t_g t_h hI, fun x2 x3 t_f t_g t_h H locs ls hh hP hD hS hl => ih x2 x3 t_f t_g t_h H locs ls hh.1 (Nat.lt_of_lt_of_le hh.2 (Nat.le_of_lt_succ hm)) hP hD hS hl⟩
        refine lv_iload_n hx hb dX11_group_23 rfl (lv_at hl 3 rfl) ?_
        refine lv_bipush (v := 24) hx hb dX11_group_24 (by decide) ?_
        obtain ⟨ht, hf⟩ := h
        refine lv_icmp_ge (tgt := 46) hx hb dX11_group_26 (by decide) (fun c9 => ?_) (fun c9 => ?_)
        · have h := ht c9
          refine lv_iconst (v := 0) hx hb dX11_group_46 (by decide) ?_
          refine lv_istore_n (lv' := [(3, .int (0 : Int32)), (0, .ref h_t), (1, .int x1), (2, .int x2)]) hx hb dX11_group_47 rfl hl (by decide) rfl (fun ls hl => ?_)
          refine lv_iconst (v := 0) hx hb dX11_group_48 (by decide) ?_
          refine lv_istore (lv' := [(4, .int (0 : Int32)), (3, .int (0 : Int32)), (0, .ref h_t), (1, .int x1), (2, .int x2)]) hx hb dX11_group_49 hl (by decide) rfl (fun ls hl => ?_)
          obtain ⟨I51, m51, hI51, hB51⟩ := h
          have L51 : ∀ (x2 : Int32) (t_thrown : Int32) (t_n : Int32) (t_f : Nat → Int32) (t_g : Nat → Int32) (t_h : Nat → Int32) (t_table : Nat → Int32) (t_twists : Nat → Int32) (I51 : Int32 → Int32 → (Nat → Int32) → Prop) (m51 : Int32 → Int32 → (Nat → Int32) → Nat), (∀ (x3 : Int32) (x4 : Int32) (t_members : Nat → Int32), I51 x3 x4 t_members → pX11_group_51 R23 K x2 t_thrown t_n t_f t_g t_h t_table t_twists x3 x4 t_members (fun x3' x4' t_members' => I51 x3' x4' t_members' ∧ m51 x3' x4' t_members' < m51 x3 x4 t_members)) → ∀ (n : Nat) (x3 : Int32) (x4 : Int32) (t_members : Nat → Int32) (H : Heap) (locs : List Loc) (ls : Array Slot), I51 x3 x4 t_members → m51 x3 x4 t_members < n → va_P G vwCl (w_X11_group Y h_t B_t t_thrown t_n t_modulus t_rows t_strands t_letters t_listedMany t_listN t_listWhat t_f t_g t_h t_members t_table t_twists) H → va_D A (w_X11_group Y h_t B_t t_thrown t_n t_modulus t_rows t_strands t_letters t_listedMany t_listN t_listWhat t_f t_g t_h t_members t_table t_twists) → va_S A s.heap H locs → lv_has ls 8 [(0, .ref h_t), (2, .int x2), (3, .int x3), (4, .int x4)] → W p l e R s m args below meth c H locs 0 0 Q (F0 m 51 ls []) := by
            intro x2 t_thrown t_n t_f t_g t_h t_table t_twists I51 m51 hB51 n
            induction n with
            | zero => intro x3 x4 t_members H locs ls _ hm; exact absurd hm (Nat.not_lt_zero _)
            | succ n ih =>
              intro x3 x4 t_members H locs ls hI hm hP hD hS hl
              obtain ⟨R51, h, rec51⟩ : ∃ R51 : Int32 → Int32 → (Nat → Int32) → Prop, pX11_group_51 R23 K x2 t_thrown t_n t_f t_g t_h t_table t_twists x3 x4 t_members R51 ∧ ∀ (x3 : Int32) (x4 : Int32) (t_members : Nat → Int32) (H : Heap) (locs : List Loc) (ls : Array Slot), R51 x3 x4 t_members → va_P G vwCl (w_X11_group Y h_t B_t t_thrown t_n t_modulus t_rows t_strands t_letters t_listedMany t_listN t_listWhat t_f t_g t_h t_members t_table t_twists) H → va_D A (w_X11_group Y h_t B_t t_thrown t_n t_modulus t_rows t_strands t_letters t_listedMany t_listN t_listWhat t_f t_g t_h t_members t_table t_twists) → va_S A s.heap H locs → lv_has ls 8 [(0, .ref h_t), (2, .int x2), (3, .int x3), (4, .int x4)] → W p l e R s m args below meth c H locs 0 0 Q (F0 m 51 ls []) := ⟨_, hB51 x3 x4 t_members hI, fun x3 x4 t_members H locs ls hh hP hD hS hl => ih x3 x4 t_members H locs ls hh.1 (Nat.lt_of_lt_of_le hh.2 (Nat.le_of_lt_succ hm)) hP hD hS hl⟩
              refine lv_iload hx hb dX11_group_51 (lv_at hl 3 rfl) ?_
              refine lv_bipush (v := 24) hx hb dX11_group_53 (by decide) ?_
              obtain ⟨ht, hf⟩ := h
              refine lv_icmp_ge (tgt := 85) hx hb dX11_group_55 (by decide) (fun c9 => ?_) (fun c9 => ?_)
              · have h := ht c9
                refine lv_aload_n hx hb dX11_group_85 rfl (lv_at hl 0 rfl) ?_
                refine lv_iload_n hx hb dX11_group_86 rfl (lv_at hl 2 rfl) ?_
                refine mc_vV ⟨hx, hb, hml, hown, hts⟩ hK hE hA hP hD hS (c_X11_sized l G Y tF H.size h_t B_t t_thrown t_n t_modulus t_rows t_strands t_letters t_listedMany t_listN t_listWhat t_twists x3 h) (cwV 1 hts gX11_group_X11_sized rfl rfl rfl (by decide +kernel) ⟨Nat.le_trans (by decide) hRf, Nat.le_trans (by decide) hRl⟩) (fun u => (w_X11_group Y h_t B_t t_thrown u.1 t_modulus t_rows t_strands t_letters t_listedMany t_listN t_listWhat t_f t_g t_h t_members t_table u.2)) [0, 6] [1, 2, 3, 4, 5] [5, 0, 1, 2, 3, 4, 6] rfl rfl rfl rfl (by decide) (fun _ => rfl) rfl 0 10 rfl rfl rfl rfl hl.1 rfl (Nat.le_of_ble_eq_true rfl) dX11_group_87 (fun u H locs h hP hD hS => ?_)
                obtain ⟨t_n_87, t_twists_87⟩ := u
                try dsimp only at h
                have hP : va_P G vwCl (w_X11_group Y h_t B_t t_thrown t_n_87 t_modulus t_rows t_strands t_letters t_listedMany t_listN t_listWhat t_f t_g t_h t_members t_table t_twists_87) H := hP
                have hD : va_D A (w_X11_group Y h_t B_t t_thrown t_n_87 t_modulus t_rows t_strands t_letters t_listedMany t_listN t_listWhat t_f t_g t_h t_members t_table t_twists_87) := hD
                refine lv_iconst (v := 0) hx hb dX11_group_90 (by decide) ?_
                refine lv_istore (lv' := [(4, .int (0 : Int32)), (0, .ref h_t), (2, .int x2), (3, .int x3)]) hx hb dX11_group_91 hl (by decide) rfl (fun ls hl => ?_)
                obtain ⟨I93, m93, hI93, hB93⟩ := h
                have L93 : ∀ (x3 : Int32) (t_thrown : Int32) (t_n : Int32) (t_members : Nat → Int32) (t_twists : Nat → Int32) (I93 : Int32 → (Nat → Int32) → (Nat → Int32) → (Nat → Int32) → (Nat → Int32) → Prop) (m93 : Int32 → (Nat → Int32) → (Nat → Int32) → (Nat → Int32) → (Nat → Int32) → Nat), (∀ (x4 : Int32) (t_f : Nat → Int32) (t_g : Nat → Int32) (t_h : Nat → Int32) (t_table : Nat → Int32), I93 x4 t_f t_g t_h t_table → pX11_group_93 R51 K x3 t_thrown t_n t_members t_twists x4 t_f t_g t_h t_table (fun x4' t_f' t_g' t_h' t_table' => I93 x4' t_f' t_g' t_h' t_table' ∧ m93 x4' t_f' t_g' t_h' t_table' < m93 x4 t_f t_g t_h t_table)) → ∀ (n : Nat) (x4 : Int32) (t_f : Nat → Int32) (t_g : Nat → Int32) (t_h : Nat → Int32) (t_table : Nat → Int32) (H : Heap) (locs : List Loc) (ls : Array Slot), I93 x4 t_f t_g t_h t_table → m93 x4 t_f t_g t_h t_table < n → va_P G vwCl (w_X11_group Y h_t B_t t_thrown t_n t_modulus t_rows t_strands t_letters t_listedMany t_listN t_listWhat t_f t_g t_h t_members t_table t_twists) H → va_D A (w_X11_group Y h_t B_t t_thrown t_n t_modulus t_rows t_strands t_letters t_listedMany t_listN t_listWhat t_f t_g t_h t_members t_table t_twists) → va_S A s.heap H locs → lv_has ls 8 [(0, .ref h_t), (3, .int x3), (4, .int x4)] → W p l e R s m args below meth c H locs 0 0 Q (F0 m 93 ls []) := by
                  intro x3 t_thrown t_n t_members t_twists I93 m93 hB93 n
                  induction n with
                  | zero => intro x4 t_f t_g t_h t_table H locs ls _ hm; exact absurd hm (Nat.not_lt_zero _)
                  | succ n ih =>
                    intro x4 t_f t_g t_h t_table H locs ls hI hm hP hD hS hl
                    obtain ⟨R93, h, rec93⟩ : ∃ R93 : Int32 → (Nat → Int32) → (Nat → Int32) → (Nat → Int32) → (Nat → Int32) → Prop, pX11_group_93 R51 K x3 t_thrown t_n t_members t_twists x4 t_f t_g t_h t_table R93 ∧ ∀ (x4 : Int32) (t_f : Nat → Int32) (t_g : Nat → Int32) (t_h : Nat → Int32) (t_table : Nat → Int32) (H : Heap) (locs : List Loc) (ls : Array Slot), R93 x4 t_f t_g t_h t_table → va_P G vwCl (w_X11_group Y h_t B_t t_thrown t_n t_modulus t_rows t_strands t_letters t_listedMany t_listN t_listWhat t_f t_g t_h t_members t_table t_twists) H → va_D A (w_X11_group Y h_t B_t t_thrown t_n t_modulus t_rows t_strands t_letters t_listedMany t_listN t_listWhat t_f t_g t_h t_members t_table t_twists) → va_S A s.heap H locs → lv_has ls 8 [(0, .ref h_t), (3, .int x3), (4, .int x4)] → W p l e R s m args below meth c H locs 0 0 Q (F0 m 93 ls []) := ⟨_, hB93 x4 t_f t_g t_h t_table hI, fun x4 t_f t_g t_h t_table H locs ls hh hP hD hS hl => ih x4 t_f t_g t_h t_table H locs ls hh.1 (Nat.lt_of_lt_of_le hh.2 (Nat.le_of_lt_succ hm)) hP hD hS hl⟩
                    refine lv_iload hx hb dX11_group_93 (lv_at hl 2 rfl) ?_
                    refine lv_iload_n hx hb dX11_group_95 rfl (lv_at hl 1 rfl) ?_
                    obtain ⟨ht, hf⟩ := h
                    refine lv_icmp_ge (tgt := 182) hx hb dX11_group_96 (by decide) (fun c9 => ?_) (fun c9 => ?_)
                    · have h := ht c9
                      refine lv_aload_n hx hb dX11_group_182 rfl (lv_at hl 0 rfl) ?_
                      refine va_get (D := G) (ci := 10) (v := .int t_n) (C := RX11) (T := TX11) (N := 29) hx hb hts inX11 hown hK hP 0 rfl rfl 1 (by decide) hf9 (fun _ h9 => h9) rfl dX11_group_183 ?_
                      exact hret t_n t_thrown t_n t_f t_g t_h t_members t_table t_twists H locs ls _ hP hD hS h dX11_group_186
                    · have h := hf c9
                      refine lv_iconst (v := 0) hx hb dX11_group_99 (by decide) ?_
                      refine lv_istore (lv' := [(5, .int (0 : Int32)), (0, .ref h_t), (3, .int x3), (4, .int x4)]) hx hb dX11_group_100 hl (by decide) rfl (fun ls hl => ?_)
                      obtain ⟨I102, m102, hI102, hB102⟩ := h
                      have L102 : ∀ (x4 : Int32) (I102 : Int32 → (Nat → Int32) → (Nat → Int32) → (Nat → Int32) → (Nat → Int32) → Prop) (m102 : Int32 → (Nat → Int32) → (Nat → Int32) → (Nat → Int32) → (Nat → Int32) → Nat), (∀ (x5 : Int32) (t_f : Nat → Int32) (t_g : Nat → Int32) (t_h : Nat → Int32) (t_table : Nat → Int32), I102 x5 t_f t_g t_h t_table → pX11_group_102 R93 K x3 t_thrown t_n t_members t_twists x4 x5 t_f t_g t_h t_table (fun x5' t_f' t_g' t_h' t_table' => I102 x5' t_f' t_g' t_h' t_table' ∧ m102 x5' t_f' t_g' t_h' t_table' < m102 x5 t_f t_g t_h t_table)) → ∀ (n : Nat) (x5 : Int32) (t_f : Nat → Int32) (t_g : Nat → Int32) (t_h : Nat → Int32) (t_table : Nat → Int32) (H : Heap) (locs : List Loc) (ls : Array Slot), I102 x5 t_f t_g t_h t_table → m102 x5 t_f t_g t_h t_table < n → va_P G vwCl (w_X11_group Y h_t B_t t_thrown t_n t_modulus t_rows t_strands t_letters t_listedMany t_listN t_listWhat t_f t_g t_h t_members t_table t_twists) H → va_D A (w_X11_group Y h_t B_t t_thrown t_n t_modulus t_rows t_strands t_letters t_listedMany t_listN t_listWhat t_f t_g t_h t_members t_table t_twists) → va_S A s.heap H locs → lv_has ls 8 [(0, .ref h_t), (3, .int x3), (4, .int x4), (5, .int x5)] → W p l e R s m args below meth c H locs 0 0 Q (F0 m 102 ls []) := by
                        intro x4 I102 m102 hB102 n
                        induction n with
                        | zero => intro x5 t_f t_g t_h t_table H locs ls _ hm; exact absurd hm (Nat.not_lt_zero _)
                        | succ n ih =>
                          intro x5 t_f t_g t_h t_table H locs ls hI hm hP hD hS hl
                          obtain ⟨R102, h, rec102⟩ : ∃ R102 : Int32 → (Nat → Int32) → (Nat → Int32) → (Nat → Int32) → (Nat → Int32) → Prop, pX11_group_102 R93 K x3 t_thrown t_n t_members t_twists x4 x5 t_f t_g t_h t_table R102 ∧ ∀ (x5 : Int32) (t_f : Nat → Int32) (t_g : Nat → Int32) (t_h : Nat → Int32) (t_table : Nat → Int32) (H : Heap) (locs : List Loc) (ls : Array Slot), R102 x5 t_f t_g t_h t_table → va_P G vwCl (w_X11_group Y h_t B_t t_thrown t_n t_modulus t_rows t_strands t_letters t_listedMany t_listN t_listWhat t_f t_g t_h t_members t_table t_twists) H → va_D A (w_X11_group Y h_t B_t t_thrown t_n t_modulus t_rows t_strands t_letters t_listedMany t_listN t_listWhat t_f t_g t_h t_members t_table t_twists) → va_S A s.heap H locs → lv_has ls 8 [(0, .ref h_t), (3, .int x3), (4, .int x4), (5, .int x5)] → W p l e R s m args below meth c H locs 0 0 Q (F0 m 102 ls []) := ⟨_, hB102 x5 t_f t_g t_h t_table hI, fun x5 t_f t_g t_h t_table H locs ls hh hP hD hS hl => ih x5 t_f t_g t_h t_table H locs ls hh.1 (Nat.lt_of_lt_of_le hh.2 (Nat.le_of_lt_succ hm)) hP hD hS hl⟩
                          refine lv_iload hx hb dX11_group_102 (lv_at hl 3 rfl) ?_
                          refine lv_iload_n hx hb dX11_group_104 rfl (lv_at hl 1 rfl) ?_
                          obtain ⟨ht, hf⟩ := h
                          refine lv_icmp_ge (tgt := 176) hx hb dX11_group_105 (by decide) (fun c9 => ?_) (fun c9 => ?_)
                          · have h := ht c9
                            refine lv_iinc (v := (x4 + 1)) (lv' := [(4, .int (x4 + 1)), (0, .ref h_t), (3, .int x3), (5, .int x5)]) hx hb dX11_group_176 hl (k := 2) rfl rfl (by decide) rfl (fun ls hl => ?_)
                            refine lv_goto (tgt := 93) hx hb dX11_group_179 (by decide) ?_
                            exact rec93 (x4 + 1) t_f t_g t_h t_table H locs ls h hP hD hS (lv_sub hl [1, 2, 0] rfl)
                          · have h := hf c9
                            refine lv_aload_n hx hb dX11_group_108 rfl (lv_at hl 0 rfl) ?_
                            refine lv_aload_n hx hb dX11_group_109 rfl (lv_at hl 0 rfl) ?_
                            refine va_get (D := G) (ci := 10) (v := .ref (B_t 8)) (C := RX11) (T := TX11) (N := 29) hx hb hts inX11 hown hK hP 0 rfl rfl 8 (by decide) hf32 (fun _ h9 => h9) rfl dX11_group_110 ?_
                            refine lv_iload hx hb dX11_group_113 (lv_at hl 2 rfl) ?_
                            obtain ⟨hin, h⟩ := h
                            refine va_iald hx hb hK hP 4 0 rfl rfl hin dX11_group_115 ?_
                            refine lv_aload_n hx hb dX11_group_116 rfl (lv_at hl 0 rfl) ?_
                            refine va_get (D := G) (ci := 10) (v := .ref (B_t 8)) (C := RX11) (T := TX11) (N := 29) hx hb hts inX11 hown hK hP 0 rfl rfl 8 (by decide) hf32 (fun _ h9 => h9) rfl dX11_group_117 ?_
                            refine lv_iload hx hb dX11_group_120 (lv_at hl 3 rfl) ?_
                            obtain ⟨hin, h⟩ := h
                            refine va_iald hx hb hK hP 4 0 rfl rfl hin dX11_group_122 ?_
                            refine mc_iV ⟨hx, hb, hml, hown, hts⟩ hK hE hA hP hD hS (c_X11_turnedBy l G Y tF H.size h_t B_t t_thrown t_n t_modulus t_rows t_strands t_letters t_listedMany t_listN t_listWhat t_f t_g t_h (t_members (Int32.toNatClampNeg x4)) (t_members (Int32.toNatClampNeg x5)) h) (cwV 2 hts gX11_group_X11_turnedBy rfl rfl rfl (by decide +kernel) ⟨Nat.le_trans (by decide) hRf, Nat.le_trans (by decide) hRl⟩) (fun u => (w_X11_group Y h_t B_t t_thrown t_n t_modulus t_rows t_strands t_letters t_listedMany t_listN t_listWhat u.1 u.2.1 u.2.2 t_members t_table t_twists)) [0, 1, 2, 3] [4, 5, 6] [3, 4, 5, 6, 0, 1, 2] rfl rfl rfl rfl (by decide) (fun _ => rfl) rfl 0 10 rfl rfl rfl rfl hl.1 rfl (Nat.le_of_ble_eq_true rfl) dX11_group_123 (fun r123 u H locs h hP hD hS => ?_)
                            obtain ⟨t_f_123, t_g_123, t_h_123⟩ := u
                            try dsimp only at h
                            have hP : va_P G vwCl (w_X11_group Y h_t B_t t_thrown t_n t_modulus t_rows t_strands t_letters t_listedMany t_listN t_listWhat t_f_123 t_g_123 t_h_123 t_members t_table t_twists) H := hP
                            have hD : va_D A (w_X11_group Y h_t B_t t_thrown t_n t_modulus t_rows t_strands t_letters t_listedMany t_listN t_listWhat t_f_123 t_g_123 t_h_123 t_members t_table t_twists) := hD
                            refine lv_istore (lv' := [(6, .int r123), (0, .ref h_t), (3, .int x3), (4, .int x4), (5, .int x5)]) hx hb dX11_group_126 hl (by decide) rfl (fun ls hl => ?_)
                            refine lv_iconst (v := 0) hx hb dX11_group_128 (by decide) ?_
                            refine lv_istore (lv' := [(7, .int (0 : Int32)), (6, .int r123), (0, .ref h_t), (3, .int x3), (4, .int x4), (5, .int x5)]) hx hb dX11_group_129 hl (by decide) rfl (fun ls hl => ?_)
                            obtain ⟨I131, m131, hI131, hB131⟩ := h
                            have L131 : ∀ (x5 : Int32) (x6 : Int32) (t_f : Nat → Int32) (t_g : Nat → Int32) (t_h : Nat → Int32) (I131 : Int32 → (Nat → Int32) → Prop) (m131 : Int32 → (Nat → Int32) → Nat), (∀ (x7 : Int32) (t_table : Nat → Int32), I131 x7 t_table → pX11_group_131 R93 R102 K x3 t_thrown t_n t_members t_twists x4 x5 x6 t_f t_g t_h x7 t_table (fun x7' t_table' => I131 x7' t_table' ∧ m131 x7' t_table' < m131 x7 t_table)) → ∀ (n : Nat) (x7 : Int32) (t_table : Nat → Int32) (H : Heap) (locs : List Loc) (ls : Array Slot), I131 x7 t_table → m131 x7 t_table < n → va_P G vwCl (w_X11_group Y h_t B_t t_thrown t_n t_modulus t_rows t_strands t_letters t_listedMany t_listN t_listWhat t_f t_g t_h t_members t_table t_twists) H → va_D A (w_X11_group Y h_t B_t t_thrown t_n t_modulus t_rows t_strands t_letters t_listedMany t_listN t_listWhat t_f t_g t_h t_members t_table t_twists) → va_S A s.heap H locs → lv_has ls 8 [(0, .ref h_t), (3, .int x3), (4, .int x4), (5, .int x5), (6, .int x6), (7, .int x7)] → W p l e R s m args below meth c H locs 0 0 Q (F0 m 131 ls []) := by
                              intro x5 x6 t_f t_g t_h I131 m131 hB131 n
                              induction n with
                              | zero => intro x7 t_table H locs ls _ hm; exact absurd hm (Nat.not_lt_zero _)
                              | succ n ih =>
                                intro x7 t_table H locs ls hI hm hP hD hS hl
                                obtain ⟨R131, h, rec131⟩ : ∃ R131 : Int32 → (Nat → Int32) → Prop, pX11_group_131 R93 R102 K x3 t_thrown t_n t_members t_twists x4 x5 x6 t_f t_g t_h x7 t_table R131 ∧ ∀ (x7 : Int32) (t_table : Nat → Int32) (H : Heap) (locs : List Loc) (ls : Array Slot), R131 x7 t_table → va_P G vwCl (w_X11_group Y h_t B_t t_thrown t_n t_modulus t_rows t_strands t_letters t_listedMany t_listN t_listWhat t_f t_g t_h t_members t_table t_twists) H → va_D A (w_X11_group Y h_t B_t t_thrown t_n t_modulus t_rows t_strands t_letters t_listedMany t_listN t_listWhat t_f t_g t_h t_members t_table t_twists) → va_S A s.heap H locs → lv_has ls 8 [(0, .ref h_t), (3, .int x3), (4, .int x4), (5, .int x5), (6, .int x6), (7, .int x7)] → W p l e R s m args below meth c H locs 0 0 Q (F0 m 131 ls []) := ⟨_, hB131 x7 t_table hI, fun x7 t_table H locs ls hh hP hD hS hl => ih x7 t_table H locs ls hh.1 (Nat.lt_of_lt_of_le hh.2 (Nat.le_of_lt_succ hm)) hP hD hS hl⟩
                                refine lv_iload hx hb dX11_group_131 (lv_at hl 5 rfl) ?_
                                refine lv_iload_n hx hb dX11_group_133 rfl (lv_at hl 1 rfl) ?_
                                obtain ⟨ht, hf⟩ := h
                                refine lv_icmp_ge (tgt := 170) hx hb dX11_group_134 (by decide) (fun c9 => ?_) (fun c9 => ?_)
                                · have h := ht c9
                                  refine lv_iinc (v := (x5 + 1)) (lv' := [(5, .int (x5 + 1)), (0, .ref h_t), (3, .int x3), (4, .int x4), (6, .int x6), (7, .int x7)]) hx hb dX11_group_170 hl (k := 3) rfl rfl (by decide) rfl (fun ls hl => ?_)
                                  refine lv_goto (tgt := 102) hx hb dX11_group_173 (by decide) ?_
                                  exact rec102 (x5 + 1) t_f t_g t_h t_table H locs ls h hP hD hS (lv_sub hl [1, 2, 3, 0] rfl)
                                · have h := hf c9
                                  refine lv_aload_n hx hb dX11_group_137 rfl (lv_at hl 0 rfl) ?_
                                  refine va_get (D := G) (ci := 10) (v := .ref (B_t 8)) (C := RX11) (T := TX11) (N := 29) hx hb hts inX11 hown hK hP 0 rfl rfl 8 (by decide) hf32 (fun _ h9 => h9) rfl dX11_group_138 ?_
                                  refine lv_iload hx hb dX11_group_141 (lv_at hl 5 rfl) ?_
                                  obtain ⟨hin, h⟩ := h
                                  refine va_iald hx hb hK hP 4 0 rfl rfl hin dX11_group_143 ?_
                                  refine lv_iload hx hb dX11_group_144 (lv_at hl 4 rfl) ?_
                                  obtain ⟨ht, hf⟩ := h
                                  refine lv_icmp_ne (tgt := 164) hx hb dX11_group_146 (by decide) (fun c9 => ?_) (fun c9 => ?_)
                                  · have h := ht c9
                                    refine lv_iinc (v := (x7 + 1)) (lv' := [(7, .int (x7 + 1)), (0, .ref h_t), (3, .int x3), (4, .int x4), (5, .int x5), (6, .int x6)]) hx hb dX11_group_164 hl (k := 5) rfl rfl (by decide) rfl (fun ls hl => ?_)
                                    refine lv_goto (tgt := 131) hx hb dX11_group_167 (by decide) ?_
                                    exact rec131 (x7 + 1) t_table H locs ls h hP hD hS (lv_sub hl [1, 2, 3, 4, 5, 0] rfl)
                                  · have h := hf c9
                                    refine lv_aload_n hx hb dX11_group_149 rfl (lv_at hl 0 rfl) ?_
                                    refine va_get (D := G) (ci := 10) (v := .ref (B_t 2)) (C := RX11) (T := TX11) (N := 29) hx hb hts inX11 hown hK hP 0 rfl rfl 2 (by decide) hf13 (fun _ h9 => h9) rfl dX11_group_150 ?_
                                    refine lv_bipush (v := 8) hx hb dX11_group_153 (by decide) ?_
                                    refine lv_iload hx hb dX11_group_155 (lv_at hl 2 rfl) ?_
                                    refine lv_imul hx hb dX11_group_157 ?_
                                    refine lv_iload hx hb dX11_group_158 (lv_at hl 3 rfl) ?_
                                    refine lv_iadd hx hb dX11_group_160 ?_
                                    refine lv_iload hx hb dX11_group_161 (lv_at hl 5 rfl) ?_
                                    obtain ⟨hin, h⟩ := h
                                    refine va_iast hx hb hK hP hD hS 5 0 rfl rfl hin dX11_group_163 (fun H locs hP hD hS => ?_)
                                    have hP : va_P G vwCl (w_X11_group Y h_t B_t t_thrown t_n t_modulus t_rows t_strands t_letters t_listedMany t_listN t_listWhat t_f t_g t_h t_members (upd t_table (Int32.toNatClampNeg (((8 : Int32) * x4) + x5)) x7) t_twists) H := hP
                                    have hD : va_D A (w_X11_group Y h_t B_t t_thrown t_n t_modulus t_rows t_strands t_letters t_listedMany t_listN t_listWhat t_f t_g t_h t_members (upd t_table (Int32.toNatClampNeg (((8 : Int32) * x4) + x5)) x7) t_twists) := hD
                                    refine lv_iinc (v := (x7 + 1)) (lv' := [(7, .int (x7 + 1)), (0, .ref h_t), (3, .int x3), (4, .int x4), (5, .int x5), (6, .int x6)]) hx hb dX11_group_164 hl (k := 5) rfl rfl (by decide) rfl (fun ls hl => ?_)
                                    refine lv_goto (tgt := 131) hx hb dX11_group_167 (by decide) ?_
                                    exact rec131 (x7 + 1) (upd t_table (Int32.toNatClampNeg (((8 : Int32) * x4) + x5)) x7) H locs ls h hP hD hS (lv_sub hl [1, 2, 3, 4, 5, 0] rfl)
                            exact L131 x5 r123 t_f_123 t_g_123 t_h_123 I131 m131 hB131 _ (0 : Int32) t_table H locs ls hI131 (Nat.lt_succ_self _) hP hD hS (lv_sub hl [2, 3, 4, 5, 1, 0] rfl)
                      exact L102 x4 I102 m102 hB102 _ (0 : Int32) t_f t_g t_h t_table H locs ls hI102 (Nat.lt_succ_self _) hP hD hS (lv_sub hl [1, 2, 3, 0] rfl)
                exact L93 x3 t_thrown t_n_87 t_members t_twists_87 I93 m93 hB93 _ (0 : Int32) t_f t_g t_h t_table H locs ls hI93 (Nat.lt_succ_self _) hP hD hS (lv_sub hl [1, 3, 0] rfl)
              · have h := hf c9
                refine lv_iload_n hx hb dX11_group_58 rfl (lv_at hl 1 rfl) ?_
                refine lv_iload hx hb dX11_group_59 (lv_at hl 3 rfl) ?_
                refine lv_ishr hx hb dX11_group_61 ?_
                refine lv_iconst (v := 1) hx hb dX11_group_62 (by decide) ?_
                refine lv_iand hx hb dX11_group_63 ?_
                refine lv_iconst (v := 1) hx hb dX11_group_64 (by decide) ?_
                obtain ⟨ht, hf⟩ := h
                refine lv_icmp_ne (tgt := 79) hx hb dX11_group_65 (by decide) (fun c9 => ?_) (fun c9 => ?_)
                · have h := ht c9
                  refine lv_iinc (v := (x4 + 1)) (lv' := [(4, .int (x4 + 1)), (0, .ref h_t), (2, .int x2), (3, .int x3)]) hx hb dX11_group_79 hl (k := 3) rfl rfl (by decide) rfl (fun ls hl => ?_)
                  refine lv_goto (tgt := 51) hx hb dX11_group_82 (by decide) ?_
                  exact rec51 x3 (x4 + 1) t_members H locs ls h hP hD hS (lv_sub hl [1, 2, 3, 0] rfl)
                · have h := hf c9
                  refine lv_aload_n hx hb dX11_group_68 rfl (lv_at hl 0 rfl) ?_
                  refine va_get (D := G) (ci := 10) (v := .ref (B_t 8)) (C := RX11) (T := TX11) (N := 29) hx hb hts inX11 hown hK hP 0 rfl rfl 8 (by decide) hf32 (fun _ h9 => h9) rfl dX11_group_69 ?_
                  refine lv_iload_n hx hb dX11_group_72 rfl (lv_at hl 2 rfl) ?_
                  refine lv_iload hx hb dX11_group_73 (lv_at hl 3 rfl) ?_
                  obtain ⟨hin, h⟩ := h
                  refine va_iast hx hb hK hP hD hS 4 0 rfl rfl hin dX11_group_75 (fun H locs hP hD hS => ?_)
                  have hP : va_P G vwCl (w_X11_group Y h_t B_t t_thrown t_n t_modulus t_rows t_strands t_letters t_listedMany t_listN t_listWhat t_f t_g t_h (upd t_members (Int32.toNatClampNeg x3) x4) t_table t_twists) H := hP
                  have hD : va_D A (w_X11_group Y h_t B_t t_thrown t_n t_modulus t_rows t_strands t_letters t_listedMany t_listN t_listWhat t_f t_g t_h (upd t_members (Int32.toNatClampNeg x3) x4) t_table t_twists) := hD
                  refine lv_iinc (v := (x3 + 1)) (lv' := [(3, .int (x3 + 1)), (0, .ref h_t), (2, .int x2), (4, .int x4)]) hx hb dX11_group_76 hl (k := 2) rfl rfl (by decide) rfl (fun ls hl => ?_)
                  refine lv_iinc (v := (x4 + 1)) (lv' := [(4, .int (x4 + 1)), (3, .int (x3 + 1)), (0, .ref h_t), (2, .int x2)]) hx hb dX11_group_79 hl (k := 3) rfl rfl (by decide) rfl (fun ls hl => ?_)
                  refine lv_goto (tgt := 51) hx hb dX11_group_82 (by decide) ?_
                  exact rec51 (x3 + 1) (x4 + 1) (upd t_members (Int32.toNatClampNeg x3) x4) H locs ls h hP hD hS (lv_sub hl [2, 3, 1, 0] rfl)
          exact L51 x2 t_thrown t_n t_f t_g t_h t_table t_twists I51 m51 hB51 _ (0 : Int32) (0 : Int32) t_members H locs ls hI51 (Nat.lt_succ_self _) hP hD hS (lv_sub hl [2, 4, 1, 0] rfl)
        · have h := hf c9
          refine lv_iload_n hx hb dX11_group_29 rfl (lv_at hl 2 rfl) ?_
          refine lv_iconst (v := 1) hx hb dX11_group_30 (by decide) ?_
          refine lv_aload_n hx hb dX11_group_31 rfl (lv_at hl 0 rfl) ?_
          refine lv_iload_n hx hb dX11_group_32 rfl (lv_at hl 3 rfl) ?_
          refine lv_iload_n hx hb dX11_group_33 rfl (lv_at hl 1 rfl) ?_
          refine mc_iV ⟨hx, hb, hml, hown, hts⟩ hK hE hA hP hD hS (c_X11_turnedBy l G Y tF H.size h_t B_t t_thrown t_n t_modulus t_rows t_strands t_letters t_listedMany t_listN t_listWhat t_f t_g t_h x3 x1 h) (cwV 2 hts gX11_group_X11_turnedBy rfl rfl rfl (by decide +kernel) ⟨Nat.le_trans (by decide) hRf, Nat.le_trans (by decide) hRl⟩) (fun u => (w_X11_group Y h_t B_t t_thrown t_n t_modulus t_rows t_strands t_letters t_listedMany t_listN t_listWhat u.1 u.2.1 u.2.2 t_members t_table t_twists)) [0, 1, 2, 3] [4, 5, 6] [3, 4, 5, 6, 0, 1, 2] rfl rfl rfl rfl (by decide) (fun _ => rfl) rfl 0 10 rfl rfl rfl rfl hl.1 rfl (Nat.le_of_ble_eq_true rfl) dX11_group_34 (fun r34 u H locs h hP hD hS => ?_)
          obtain ⟨t_f_34, t_g_34, t_h_34⟩ := u
          try dsimp only at h
          have hP : va_P G vwCl (w_X11_group Y h_t B_t t_thrown t_n t_modulus t_rows t_strands t_letters t_listedMany t_listN t_listWhat t_f_34 t_g_34 t_h_34 t_members t_table t_twists) H := hP
          have hD : va_D A (w_X11_group Y h_t B_t t_thrown t_n t_modulus t_rows t_strands t_letters t_listedMany t_listN t_listWhat t_f_34 t_g_34 t_h_34 t_members t_table t_twists) := hD
          refine lv_ishl hx hb dX11_group_37 ?_
          refine lv_ior hx hb dX11_group_38 ?_
          refine lv_istore_n (lv' := [(2, .int (x2 ||| ((1 : Int32) <<< (r34 &&& 31)))), (0, .ref h_t), (1, .int x1), (3, .int x3)]) hx hb dX11_group_39 rfl hl (by decide) rfl (fun ls hl => ?_)
          refine lv_iinc (v := (x3 + 1)) (lv' := [(3, .int (x3 + 1)), (2, .int (x2 ||| ((1 : Int32) <<< (r34 &&& 31)))), (0, .ref h_t), (1, .int x1)]) hx hb dX11_group_40 hl (k := 3) rfl rfl (by decide) rfl (fun ls hl => ?_)
          refine lv_goto (tgt := 23) hx hb dX11_group_43 (by decide) ?_
          exact rec23 (x2 ||| ((1 : Int32) <<< (r34 &&& 31))) (x3 + 1) t_f_34 t_g_34 t_h_34 H locs ls h hP hD hS (lv_sub hl [2, 3, 1, 0] rfl)
    exact L23 x1 (0 : Int32) t_n t_members t_table t_twists I23 m23 hB23 _ (0 : Int32) (0 : Int32) t_f t_g t_h H locs ls hI23 (Nat.lt_succ_self _) hP hD hS (lv_sub hl [2, 3, 1, 0] rfl)
  · have h := hf c9
    refine lv_iconst (v := -1) hx hb dX11_group_17 (by decide) ?_
    exact hret (-1 : Int32) (0 : Int32) t_n t_f t_g t_h t_members t_table t_twists H locs ls _ hP hD hS h dX11_group_18

set_option maxHeartbeats 20000000 in
set_option maxRecDepth 100000 in
theorem c_X11_group (l : Launch) (G : va_G) (Y : Nat → ClassId) (tF sz : Nat) (h_t : Nat) (B_t : Nat → Nat) (t_thrown : Int32) (t_n : Int32) (t_modulus : Int32) (t_rows : Int32) (t_strands : Int32) (t_letters : Int32) (t_listedMany : Int32) (t_listN : Int32) (t_listWhat : Int32) (t_f : Nat → Int32) (t_g : Nat → Int32) (t_h : Nat → Int32) (t_members : Nat → Int32) (t_table : Nat → Int32) (t_twists : Nat → Int32) (x1 : Int32) {K : Int32 → Int32 → Int32 → (Nat → Int32) → (Nat → Int32) → (Nat → Int32) → (Nat → Int32) → (Nat → Int32) → (Nat → Int32) → Prop} (h : pX11_group t_thrown t_n t_f t_g t_h t_members t_table t_twists x1 K) : Met l yX11_group wsX11_group ({ frames := 13, cells := 0, slots := 0, locals := 271 }) (PcM G Y tF sz (w_X11_group Y h_t B_t t_thrown t_n t_modulus t_rows t_strands t_letters t_listedMany t_listN t_listWhat t_f t_g t_h t_members t_table t_twists) [.ref h_t, .int x1]) (va_Qi (fun (r : Int32) (u : Int32 × Int32 × (Nat → Int32) × (Nat → Int32) × (Nat → Int32) × (Nat → Int32) × (Nat → Int32) × (Nat → Int32)) => K r u.1 u.2.1 u.2.2.1 u.2.2.2.1 u.2.2.2.2.1 u.2.2.2.2.2.1 u.2.2.2.2.2.2.1 u.2.2.2.2.2.2.2) (fun u t => BM G Y (va_A (w_X11_group Y h_t B_t t_thrown t_n t_modulus t_rows t_strands t_letters t_listedMany t_listN t_listWhat t_f t_g t_h t_members t_table t_twists) sz) (w_X11_group Y h_t B_t u.1 u.2.1 t_modulus t_rows t_strands t_letters t_listedMany t_listN t_listWhat u.2.2.1 u.2.2.2.1 u.2.2.2.2.1 u.2.2.2.2.2.1 u.2.2.2.2.2.2.1 u.2.2.2.2.2.2.2) t) (va_A (w_X11_group Y h_t B_t t_thrown t_n t_modulus t_rows t_strands t_letters t_listedMany t_listN t_listWhat t_f t_g t_h t_members t_table t_twists) sz)) 0 0 (va_A (w_X11_group Y h_t B_t t_thrown t_n t_modulus t_rows t_strands t_letters t_listedMany t_listN t_listWhat t_f t_g t_h t_members t_table t_twists) sz) := by
  refine Met.ofW (cc := cX11_group) (maxL := 8) (ret := (some .int)) (by decide +kernel) rfl ?_
  intro p e s m args below meth c s₁ B hml hv
  obtain ⟨rfl, hsz, hP, hK, hD0, hE⟩ := hv
  have hts := atoms_spec (ws := wsX11_group) B.pre
  have hown : s.vm.findClass RX11 = some m.cls := findClass_of_methodNamed B.named
  have hlocks := B.notSynchronized
  subst hsz
  have hD := hD0.self (sz := s.heap.size)
  exact wk_X11_group h_t B_t t_thrown t_n t_modulus t_rows t_strands t_letters t_listedMany t_listN t_listWhat t_f t_g t_h t_members t_table t_twists x1 B.exec B.bytes hml hown hts hK hE (fun q h => Or.inr h) (Nat.le_refl _) (Nat.le_refl _) (fun r t_thrown t_n t_f t_g t_h t_members t_table t_twists H locs ls pc hP hD hS hk hd => W.iret (v := r) B.exec B.bytes B.returns (fun t ht hW => ⟨⟨r, (t_thrown, t_n, t_f, t_g, t_h, t_members, t_table, t_twists), rfl, hk, by rw [ht]; exact hP, va_K.moved hW.alike hK, hD⟩, hS.F ht⟩) hS.2.2 hd) hP hD h

