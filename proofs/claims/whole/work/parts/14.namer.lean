abbrev w_X4_swapped (Y : Nat → ClassId) : va_W := []

set_option maxHeartbeats 4000000 in
set_option maxRecDepth 100000 in
theorem wk_X4_swapped {p : Program} {l : Launch} {e : Env} {R : Room} {s : State} {m : MethodId} {args : Array Value} {below : List Frame} {meth : Method} {c : Code} {Q : State → Prop} {G : va_G} {Y : Nat → ClassId} {tF : Nat} {A : Nat → Prop} (x0 : Int32) (x1 : Int32) (x2 : Int32) {K : Int32 → Prop} (hx : p.tables.exec = Jvm.exec) (hb : c.code = cX4_swapped) (hml : c.maxLocals = 3) (hown : s.vm.findClass RX4 = some m.cls) (hts : ∀ w ∈ wsX4_swapped, w.before args s = true) (hK : va_K G vwCl (tyL Y) s) (hE : Ev A tF s) (hA : ∀ q, s.heap.size ≤ q → A q) (hRf : 0 ≤ R.frames) (hRl : 0 ≤ R.locals) (hret : ∀ (r : Int32)  (H : Heap) (locs : List Loc) (ls : Array Slot) (pc : Nat), va_P G vwCl (w_X4_swapped Y) H → va_D A (w_X4_swapped Y) → va_S A s.heap H locs → K r → decode cX4_swapped pc = .ok (.ireturn, 1) → W p l e R s m args below meth c H locs 0 0 Q (F0 m pc ls [.int r])) (hP : va_P G vwCl (w_X4_swapped Y) s.heap) (hD : va_D A (w_X4_swapped Y)) (h : pX4_swapped x0 x1 x2 K) : W p l e R s m args below meth c s.heap [] 0 0 Q (entryFrame m ([.int x0, .int x1, .int x2] : List Value).toArray 3) := by
  have hl := lv_entry ([.int x0, .int x1, .int x2]) (n := 3) (Nat.le_of_ble_eq_true rfl)
  rw [lg_entry_eq]
  generalize (lg_sl ([.int x0, .int x1, .int x2]) ++ List.replicate (3 - (lg_sl ([.int x0, .int x1, .int x2])).length) Slot.unset).toArray = ls at hl ⊢
  have hl : lv_has ls 3 [(0, .int x0), (1, .int x1), (2, .int x2)] := hl
  generalize hH0 : s.heap = H at hP ⊢
  have hS : va_S A s.heap H [] := by rw [← hH0]; exact va_S.rf
  clear hH0
  generalize ([] : List Loc) = locs at hS ⊢
  refine lv_iload_n hx hb dX4_swapped_0 rfl (lv_at hl 0 rfl) ?_
  refine lv_iload_n hx hb dX4_swapped_1 rfl (lv_at hl 1 rfl) ?_
  obtain ⟨ht, hf⟩ := h
  refine lv_icmp_ne (tgt := 7) hx hb dX4_swapped_2 (by decide) (fun c9 => ?_) (fun c9 => ?_)
  · have h := ht c9
    refine lv_iload_n hx hb dX4_swapped_7 rfl (lv_at hl 0 rfl) ?_
    refine lv_iload_n hx hb dX4_swapped_8 rfl (lv_at hl 2 rfl) ?_
    obtain ⟨ht, hf⟩ := h
    refine lv_icmp_ne (tgt := 16) hx hb dX4_swapped_9 (by decide) (fun c9 => ?_) (fun c9 => ?_)
    · have h := ht c9
      refine lv_iload_n hx hb dX4_swapped_16 rfl (lv_at hl 0 rfl) ?_
      exact hret x0  H locs ls _ hP hD hS h dX4_swapped_17
    · have h := hf c9
      refine lv_iload_n hx hb dX4_swapped_12 rfl (lv_at hl 1 rfl) ?_
      refine lv_goto (tgt := 17) hx hb dX4_swapped_13 (by decide) ?_
      exact hret x1  H locs ls _ hP hD hS h dX4_swapped_17
  · have h := hf c9
    refine lv_iload_n hx hb dX4_swapped_5 rfl (lv_at hl 2 rfl) ?_
    exact hret x2  H locs ls _ hP hD hS h dX4_swapped_6

set_option maxHeartbeats 4000000 in
set_option maxRecDepth 100000 in
theorem c_X4_swapped (l : Launch) (G : va_G) (Y : Nat → ClassId) (tF sz : Nat) (x0 : Int32) (x1 : Int32) (x2 : Int32) {K : Int32 → Prop} (h : pX4_swapped x0 x1 x2 K) : Met l yX4_swapped wsX4_swapped ({ frames := 0, cells := 0, slots := 0, locals := 0 }) (PcM G Y tF sz (w_X4_swapped Y) [.int x0, .int x1, .int x2]) (va_Qi (fun (r : Int32) (u : Unit) => K r ) (fun u t => BM G Y (va_A (w_X4_swapped Y) sz) (w_X4_swapped Y) t) (va_A (w_X4_swapped Y) sz)) 0 0 (va_A (w_X4_swapped Y) sz) := by
  refine Met.ofW (cc := cX4_swapped) (maxL := 3) (ret := (some .int)) (by decide +kernel) rfl ?_
  intro p e s m args below meth c s₁ B hml hv
  obtain ⟨rfl, hsz, hP, hK, hD0, hE⟩ := hv
  have hts := atoms_spec (ws := wsX4_swapped) B.pre
  have hown : s.vm.findClass RX4 = some m.cls := findClass_of_methodNamed B.named
  have hlocks := B.notSynchronized
  subst hsz
  have hD := hD0.self (sz := s.heap.size)
  exact wk_X4_swapped x0 x1 x2 B.exec B.bytes hml hown hts hK hE (fun q h => Or.inr h) (Nat.le_refl _) (Nat.le_refl _) (fun r  H locs ls pc hP hD hS hk hd => W.iret (v := r) B.exec B.bytes B.returns (fun t ht hW => ⟨⟨r, (), rfl, hk, by rw [ht]; exact hP, va_K.moved hW.alike hK, hD⟩, hS.F ht⟩) hS.2.2 hd) hP hD h

abbrev w_X4_areTwins (Y : Nat → ClassId) (h_p0 : Nat) (B_p0 : Nat → Nat) (p0_n : Int32) (p0_cells : Nat → Int32) : va_W := [(h_p0, .inr (6, [.ref (B_p0 0), .int p0_n])), ((B_p0 0), .inl (Y 0, 64, .inl p0_cells))]

set_option maxHeartbeats 4000000 in
set_option maxRecDepth 100000 in
theorem wk_X4_areTwins {p : Program} {l : Launch} {e : Env} {R : Room} {s : State} {m : MethodId} {args : Array Value} {below : List Frame} {meth : Method} {c : Code} {Q : State → Prop} {G : va_G} {Y : Nat → ClassId} {tF : Nat} {A : Nat → Prop} (h_p0 : Nat) (B_p0 : Nat → Nat) (p0_n : Int32) (p0_cells : Nat → Int32) (x1 : Int32) (x2 : Int32) {K : Int32 → Prop} (hx : p.tables.exec = Jvm.exec) (hb : c.code = cX4_areTwins) (hml : c.maxLocals = 6) (hown : s.vm.findClass RX4 = some m.cls) (hts : ∀ w ∈ wsX4_areTwins, w.before args s = true) (hK : va_K G vwCl (tyL Y) s) (hE : Ev A tF s) (hA : ∀ q, s.heap.size ≤ q → A q) (hRf : 1 ≤ R.frames) (hRl : 22 ≤ R.locals) (hret : ∀ (r : Int32)  (H : Heap) (locs : List Loc) (ls : Array Slot) (pc : Nat), va_P G vwCl (w_X4_areTwins Y h_p0 B_p0 p0_n p0_cells) H → va_D A (w_X4_areTwins Y h_p0 B_p0 p0_n p0_cells) → va_S A s.heap H locs → zb r → K r → decode cX4_areTwins pc = .ok (.ireturn, 1) → W p l e R s m args below meth c H locs 0 0 Q (F0 m pc ls [.int r])) (hP : va_P G vwCl (w_X4_areTwins Y h_p0 B_p0 p0_n p0_cells) s.heap) (hD : va_D A (w_X4_areTwins Y h_p0 B_p0 p0_n p0_cells)) (h : pX4_areTwins p0_n p0_cells x1 x2 K) : W p l e R s m args below meth c s.heap [] 0 0 Q (entryFrame m ([.ref h_p0, .int x1, .int x2] : List Value).toArray 6) := by
  have inX7 : ∀ w ∈ u_ws RX7 TX7 2, w ∈ wsX4_areTwins := by decide +kernel
  have hl := lv_entry ([.ref h_p0, .int x1, .int x2]) (n := 6) (Nat.le_of_ble_eq_true rfl)
  rw [lg_entry_eq]
  generalize (lg_sl ([.ref h_p0, .int x1, .int x2]) ++ List.replicate (6 - (lg_sl ([.ref h_p0, .int x1, .int x2])).length) Slot.unset).toArray = ls at hl ⊢
  have hl : lv_has ls 6 [(0, .ref h_p0), (1, .int x1), (2, .int x2)] := hl
  generalize hH0 : s.heap = H at hP ⊢
  have hS : va_S A s.heap H [] := by rw [← hH0]; exact va_S.rf
  clear hH0
  generalize ([] : List Loc) = locs at hS ⊢
  refine lv_iconst (v := 0) hx hb dX4_areTwins_0 (by decide) ?_
  refine lv_istore_n (lv' := [(3, .int (0 : Int32)), (0, .ref h_p0), (1, .int x1), (2, .int x2)]) hx hb dX4_areTwins_1 rfl hl (by decide) rfl (fun ls hl => ?_)
  obtain ⟨I2, m2, hI2, hB2⟩ := h
  have L2 : ∀ (x1 : Int32) (x2 : Int32) (I2 : Int32 → Prop) (m2 : Int32 → Nat), (∀ (x3 : Int32), I2 x3 → pX4_areTwins_2 p0_n p0_cells K x1 x2 x3 (fun x3' => I2 x3' ∧ m2 x3' < m2 x3)) → ∀ (n : Nat) (x3 : Int32) (H : Heap) (locs : List Loc) (ls : Array Slot), I2 x3 → m2 x3 < n → va_P G vwCl (w_X4_areTwins Y h_p0 B_p0 p0_n p0_cells) H → va_D A (w_X4_areTwins Y h_p0 B_p0 p0_n p0_cells) → va_S A s.heap H locs → lv_has ls 6 [(0, .ref h_p0), (1, .int x1), (2, .int x2), (3, .int x3)] → W p l e R s m args below meth c H locs 0 0 Q (F0 m 2 ls []) := by
    intro x1 x2 I2 m2 hB2 n
    induction n with
    | zero => intro x3 H locs ls _ hm; exact absurd hm (Nat.not_lt_zero _)
    | succ n ih =>
      intro x3 H locs ls hI hm hP hD hS hl
      obtain ⟨R2, h, rec2⟩ : ∃ R2 : Int32 → Prop, pX4_areTwins_2 p0_n p0_cells K x1 x2 x3 R2 ∧ ∀ (x3 : Int32) (H : Heap) (locs : List Loc) (ls : Array Slot), R2 x3 → va_P G vwCl (w_X4_areTwins Y h_p0 B_p0 p0_n p0_cells) H → va_D A (w_X4_areTwins Y h_p0 B_p0 p0_n p0_cells) → va_S A s.heap H locs → lv_has ls 6 [(0, .ref h_p0), (1, .int x1), (2, .int x2), (3, .int x3)] → W p l e R s m args below meth c H locs 0 0 Q (F0 m 2 ls []) := ⟨_, hB2 x3 hI, fun x3 H locs ls hh hP hD hS hl => ih x3 H locs ls hh.1 (Nat.lt_of_lt_of_le hh.2 (Nat.le_of_lt_succ hm)) hP hD hS hl⟩
      refine lv_iload_n hx hb dX4_areTwins_2 rfl (lv_at hl 3 rfl) ?_
      refine lv_aload_n hx hb dX4_areTwins_3 rfl (lv_at hl 0 rfl) ?_
      refine va_getN (D := G) (ci := 6) (v := .int p0_n) (C := RX7) (T := TX7) (N := 2) hx hb hts inX7 hown hK hP 0 rfl rfl 1 (by decide) (hE.nest args 10 _ rfl) (fun _ h9 => h9) rfl dX4_areTwins_4 ?_
      obtain ⟨ht, hf⟩ := h
      refine lv_icmp_ge (tgt := 72) hx hb dX4_areTwins_7 (by decide) (fun c9 => ?_) (fun c9 => ?_)
      · have h := ht c9
        refine lv_iconst (v := 1) hx hb dX4_areTwins_72 (by decide) ?_
        obtain ⟨hz, h⟩ := h
        exact hret (1 : Int32)  H locs ls _ hP hD hS hz h dX4_areTwins_73
      · have h := hf c9
        refine lv_iconst (v := 0) hx hb dX4_areTwins_10 (by decide) ?_
        refine lv_istore (lv' := [(4, .int (0 : Int32)), (0, .ref h_p0), (1, .int x1), (2, .int x2), (3, .int x3)]) hx hb dX4_areTwins_11 hl (by decide) rfl (fun ls hl => ?_)
        obtain ⟨I13, m13, hI13, hB13⟩ := h
        have L13 : ∀ (x3 : Int32) (I13 : Int32 → Prop) (m13 : Int32 → Nat), (∀ (x4 : Int32), I13 x4 → pX4_areTwins_13 p0_n p0_cells R2 K x1 x2 x3 x4 (fun x4' => I13 x4' ∧ m13 x4' < m13 x4)) → ∀ (n : Nat) (x4 : Int32) (H : Heap) (locs : List Loc) (ls : Array Slot), I13 x4 → m13 x4 < n → va_P G vwCl (w_X4_areTwins Y h_p0 B_p0 p0_n p0_cells) H → va_D A (w_X4_areTwins Y h_p0 B_p0 p0_n p0_cells) → va_S A s.heap H locs → lv_has ls 6 [(0, .ref h_p0), (1, .int x1), (2, .int x2), (3, .int x3), (4, .int x4)] → W p l e R s m args below meth c H locs 0 0 Q (F0 m 13 ls []) := by
          intro x3 I13 m13 hB13 n
          induction n with
          | zero => intro x4 H locs ls _ hm; exact absurd hm (Nat.not_lt_zero _)
          | succ n ih =>
            intro x4 H locs ls hI hm hP hD hS hl
            obtain ⟨R13, h, rec13⟩ : ∃ R13 : Int32 → Prop, pX4_areTwins_13 p0_n p0_cells R2 K x1 x2 x3 x4 R13 ∧ ∀ (x4 : Int32) (H : Heap) (locs : List Loc) (ls : Array Slot), R13 x4 → va_P G vwCl (w_X4_areTwins Y h_p0 B_p0 p0_n p0_cells) H → va_D A (w_X4_areTwins Y h_p0 B_p0 p0_n p0_cells) → va_S A s.heap H locs → lv_has ls 6 [(0, .ref h_p0), (1, .int x1), (2, .int x2), (3, .int x3), (4, .int x4)] → W p l e R s m args below meth c H locs 0 0 Q (F0 m 13 ls []) := ⟨_, hB13 x4 hI, fun x4 H locs ls hh hP hD hS hl => ih x4 H locs ls hh.1 (Nat.lt_of_lt_of_le hh.2 (Nat.le_of_lt_succ hm)) hP hD hS hl⟩
            refine lv_iload hx hb dX4_areTwins_13 (lv_at hl 4 rfl) ?_
            refine lv_aload_n hx hb dX4_areTwins_15 rfl (lv_at hl 0 rfl) ?_
            refine va_getN (D := G) (ci := 6) (v := .int p0_n) (C := RX7) (T := TX7) (N := 2) hx hb hts inX7 hown hK hP 0 rfl rfl 1 (by decide) (hE.nest args 10 _ rfl) (fun _ h9 => h9) rfl dX4_areTwins_16 ?_
            obtain ⟨ht, hf⟩ := h
            refine lv_icmp_ge (tgt := 66) hx hb dX4_areTwins_19 (by decide) (fun c9 => ?_) (fun c9 => ?_)
            · have h := ht c9
              refine lv_iinc (v := (x3 + 1)) (lv' := [(3, .int (x3 + 1)), (0, .ref h_p0), (1, .int x1), (2, .int x2), (4, .int x4)]) hx hb dX4_areTwins_66 hl (k := 3) rfl rfl (by decide) rfl (fun ls hl => ?_)
              refine lv_goto (tgt := 2) hx hb dX4_areTwins_69 (by decide) ?_
              exact rec2 (x3 + 1) H locs ls h hP hD hS (lv_sub hl [1, 2, 3, 0] rfl)
            · have h := hf c9
              refine lv_aload_n hx hb dX4_areTwins_22 rfl (lv_at hl 0 rfl) ?_
              refine lv_iload_n hx hb dX4_areTwins_23 rfl (lv_at hl 3 rfl) ?_
              refine lv_iload_n hx hb dX4_areTwins_24 rfl (lv_at hl 1 rfl) ?_
              refine lv_iload_n hx hb dX4_areTwins_25 rfl (lv_at hl 2 rfl) ?_
              refine mc_iS ⟨hx, hb, hml, hown, hts⟩ hK hE hA hP hD hS (c_X4_swapped l G Y tF H.size x3 x1 x2 h) (va_cwS 3 hts gX4_areTwins_X4_swapped rfl rfl rfl (by decide +kernel) ⟨Nat.le_trans (by decide) hRf, Nat.le_trans (by decide) hRl⟩) (fun u => (w_X4_areTwins Y h_p0 B_p0 p0_n p0_cells)) [] [0, 1] [0, 1] rfl rfl rfl rfl (by decide) (fun _ => rfl) rfl rfl hl.1 rfl (Nat.le_of_ble_eq_true rfl) dX4_areTwins_26 (fun r26 u H locs h hP hD hS => ?_)
              try dsimp only at h
              have hP : va_P G vwCl (w_X4_areTwins Y h_p0 B_p0 p0_n p0_cells) H := hP
              have hD : va_D A (w_X4_areTwins Y h_p0 B_p0 p0_n p0_cells) := hD
              refine lv_iload hx hb dX4_areTwins_29 (lv_at hl 4 rfl) ?_
              refine lv_iload_n hx hb dX4_areTwins_31 rfl (lv_at hl 1 rfl) ?_
              refine lv_iload_n hx hb dX4_areTwins_32 rfl (lv_at hl 2 rfl) ?_
              refine mc_iS ⟨hx, hb, hml, hown, hts⟩ hK hE hA hP hD hS (c_X4_swapped l G Y tF H.size x4 x1 x2 h) (va_cwS 3 hts gX4_areTwins_X4_swapped rfl rfl rfl (by decide +kernel) ⟨Nat.le_trans (by decide) hRf, Nat.le_trans (by decide) hRl⟩) (fun u => (w_X4_areTwins Y h_p0 B_p0 p0_n p0_cells)) [] [0, 1] [0, 1] rfl rfl rfl rfl (by decide) (fun _ => rfl) rfl rfl hl.1 rfl (Nat.le_of_ble_eq_true rfl) dX4_areTwins_33 (fun r33 u H locs h hP hD hS => ?_)
              try dsimp only at h
              have hP : va_P G vwCl (w_X4_areTwins Y h_p0 B_p0 p0_n p0_cells) H := hP
              have hD : va_D A (w_X4_areTwins Y h_p0 B_p0 p0_n p0_cells) := hD
              refine mc_iV ⟨hx, hb, hml, hown, hts⟩ hK hE hA hP hD hS (c_X7_turned l G Y tF H.size h_p0 B_p0 p0_n p0_cells r26 r33 h) (cwV 2 hts gX4_areTwins_X7_turned rfl rfl rfl (by decide +kernel) ⟨Nat.le_trans (by decide) hRf, Nat.le_trans (by decide) hRl⟩) (fun u => (w_X4_areTwins Y h_p0 B_p0 p0_n p0_cells)) [0, 1] [] [0, 1] rfl rfl rfl rfl (by decide) (fun _ => rfl) rfl 0 6 rfl rfl rfl rfl hl.1 rfl (Nat.le_of_ble_eq_true rfl) dX4_areTwins_36 (fun r36 u H locs h hP hD hS => ?_)
              try dsimp only at h
              have hP : va_P G vwCl (w_X4_areTwins Y h_p0 B_p0 p0_n p0_cells) H := hP
              have hD : va_D A (w_X4_areTwins Y h_p0 B_p0 p0_n p0_cells) := hD
              refine lv_istore (lv' := [(5, .int r36), (0, .ref h_p0), (1, .int x1), (2, .int x2), (3, .int x3), (4, .int x4)]) hx hb dX4_areTwins_39 hl (by decide) rfl (fun ls hl => ?_)
              refine lv_iload hx hb dX4_areTwins_41 (lv_at hl 0 rfl) ?_
              refine lv_aload_n hx hb dX4_areTwins_43 rfl (lv_at hl 1 rfl) ?_
              refine lv_iload_n hx hb dX4_areTwins_44 rfl (lv_at hl 4 rfl) ?_
              refine lv_iload hx hb dX4_areTwins_45 (lv_at hl 5 rfl) ?_
              refine mc_iV ⟨hx, hb, hml, hown, hts⟩ hK hE hA hP hD hS (c_X7_turned l G Y tF H.size h_p0 B_p0 p0_n p0_cells x3 x4 h) (cwV 2 hts gX4_areTwins_X7_turned rfl rfl rfl (by decide +kernel) ⟨Nat.le_trans (by decide) hRf, Nat.le_trans (by decide) hRl⟩) (fun u => (w_X4_areTwins Y h_p0 B_p0 p0_n p0_cells)) [0, 1] [] [0, 1] rfl rfl rfl rfl (by decide) (fun _ => rfl) rfl 0 6 rfl rfl rfl rfl hl.1 rfl (Nat.le_of_ble_eq_true rfl) dX4_areTwins_47 (fun r47 u H locs h hP hD hS => ?_)
              try dsimp only at h
              have hP : va_P G vwCl (w_X4_areTwins Y h_p0 B_p0 p0_n p0_cells) H := hP
              have hD : va_D A (w_X4_areTwins Y h_p0 B_p0 p0_n p0_cells) := hD
              refine lv_iload_n hx hb dX4_areTwins_50 rfl (lv_at hl 2 rfl) ?_
              refine lv_iload_n hx hb dX4_areTwins_51 rfl (lv_at hl 3 rfl) ?_
              refine mc_iS ⟨hx, hb, hml, hown, hts⟩ hK hE hA hP hD hS (c_X4_swapped l G Y tF H.size r47 x1 x2 h) (va_cwS 3 hts gX4_areTwins_X4_swapped rfl rfl rfl (by decide +kernel) ⟨Nat.le_trans (by decide) hRf, Nat.le_trans (by decide) hRl⟩) (fun u => (w_X4_areTwins Y h_p0 B_p0 p0_n p0_cells)) [] [0, 1] [0, 1] rfl rfl rfl rfl (by decide) (fun _ => rfl) rfl rfl hl.1 rfl (Nat.le_of_ble_eq_true rfl) dX4_areTwins_52 (fun r52 u H locs h hP hD hS => ?_)
              try dsimp only at h
              have hP : va_P G vwCl (w_X4_areTwins Y h_p0 B_p0 p0_n p0_cells) H := hP
              have hD : va_D A (w_X4_areTwins Y h_p0 B_p0 p0_n p0_cells) := hD
              obtain ⟨ht, hf⟩ := h
              refine lv_icmp_eq (tgt := 60) hx hb dX4_areTwins_55 (by decide) (fun c9 => ?_) (fun c9 => ?_)
              · have h := ht c9
                refine lv_iinc (v := (x4 + 1)) (lv' := [(4, .int (x4 + 1)), (5, .int r36), (0, .ref h_p0), (1, .int x1), (2, .int x2), (3, .int x3)]) hx hb dX4_areTwins_60 hl (k := 5) rfl rfl (by decide) rfl (fun ls hl => ?_)
                refine lv_goto (tgt := 13) hx hb dX4_areTwins_63 (by decide) ?_
                exact rec13 (x4 + 1) H locs ls h hP hD hS (lv_sub hl [2, 3, 4, 5, 0] rfl)
              · have h := hf c9
                refine lv_iconst (v := 0) hx hb dX4_areTwins_58 (by decide) ?_
                obtain ⟨hz, h⟩ := h
                exact hret (0 : Int32)  H locs ls _ hP hD hS hz h dX4_areTwins_59
        exact L13 x3 I13 m13 hB13 _ (0 : Int32) H locs ls hI13 (Nat.lt_succ_self _) hP hD hS (lv_sub hl [1, 2, 3, 4, 0] rfl)
  exact L2 x1 x2 I2 m2 hB2 _ (0 : Int32) H locs ls hI2 (Nat.lt_succ_self _) hP hD hS (lv_sub hl [1, 2, 3, 0] rfl)

set_option maxHeartbeats 4000000 in
set_option maxRecDepth 100000 in
theorem c_X4_areTwins (l : Launch) (G : va_G) (Y : Nat → ClassId) (tF sz : Nat) (h_p0 : Nat) (B_p0 : Nat → Nat) (p0_n : Int32) (p0_cells : Nat → Int32) (x1 : Int32) (x2 : Int32) {K : Int32 → Prop} (h : pX4_areTwins p0_n p0_cells x1 x2 K) : Met l yX4_areTwins wsX4_areTwins ({ frames := 1, cells := 0, slots := 0, locals := 22 }) (PcM G Y tF sz (w_X4_areTwins Y h_p0 B_p0 p0_n p0_cells) [.ref h_p0, .int x1, .int x2]) (va_Qi (fun (r : Int32) (u : Unit) => K r ) (fun u t => BM G Y (va_A (w_X4_areTwins Y h_p0 B_p0 p0_n p0_cells) sz) (w_X4_areTwins Y h_p0 B_p0 p0_n p0_cells) t) (va_A (w_X4_areTwins Y h_p0 B_p0 p0_n p0_cells) sz)) 0 0 (va_A (w_X4_areTwins Y h_p0 B_p0 p0_n p0_cells) sz) := by
  refine Met.ofW (cc := cX4_areTwins) (maxL := 6) (ret := (some .boolean)) (by decide +kernel) rfl ?_
  intro p e s m args below meth c s₁ B hml hv
  obtain ⟨rfl, hsz, hP, hK, hD0, hE⟩ := hv
  have hts := atoms_spec (ws := wsX4_areTwins) B.pre
  have hown : s.vm.findClass RX4 = some m.cls := findClass_of_methodNamed B.named
  have hlocks := B.notSynchronized
  subst hsz
  have hD := hD0.self (sz := s.heap.size)
  exact wk_X4_areTwins h_p0 B_p0 p0_n p0_cells x1 x2 B.exec B.bytes hml hown hts hK hE (fun q h => Or.inr h) (Nat.le_refl _) (Nat.le_refl _) (fun r  H locs ls pc hP hD hS hz hk hd => W.zret (v := r) B.exec B.bytes B.returns hz.n (fun t ht hW => ⟨⟨r, (), rfl, hk, by rw [ht]; exact hP, va_K.moved hW.alike hK, hD⟩, hS.F ht⟩) hS.2.2 hd) hP hD h

abbrev w_X4_findTwins (Y : Nat → ClassId) (h_t : Nat) (h_p1 : Nat) (B_t : Nat → Nat) (B_p1 : Nat → Nat) (t_named : Int32) (t_twins : Nat → Int32) (p1_n : Int32) (p1_cells : Nat → Int32) : va_W := [(h_t, .inr (4, [.ref (B_t 0), .ref (B_t 1), .ref (B_t 2), .ref (B_t 3), .ref (B_t 4), .int t_named])), ((B_t 3), .inl (Y 0, 8, .inl t_twins)), (h_p1, .inr (6, [.ref (B_p1 0), .int p1_n])), ((B_p1 0), .inl (Y 0, 64, .inl p1_cells))]

set_option maxHeartbeats 4000000 in
set_option maxRecDepth 100000 in
theorem wk_X4_findTwins {p : Program} {l : Launch} {e : Env} {R : Room} {s : State} {m : MethodId} {args : Array Value} {below : List Frame} {meth : Method} {c : Code} {Q : State → Prop} {G : va_G} {Y : Nat → ClassId} {tF : Nat} {A : Nat → Prop} (h_t : Nat) (h_p1 : Nat) (B_t : Nat → Nat) (B_p1 : Nat → Nat) (t_named : Int32) (t_twins : Nat → Int32) (p1_n : Int32) (p1_cells : Nat → Int32) {K : (Nat → Int32) → Prop} (hx : p.tables.exec = Jvm.exec) (hb : c.code = cX4_findTwins) (hml : c.maxLocals = 4) (hown : s.vm.findClass RX4 = some m.cls) (hts : ∀ w ∈ wsX4_findTwins, w.before args s = true) (hK : va_K G vwCl (tyL Y) s) (hE : Ev A tF s) (hA : ∀ q, s.heap.size ≤ q → A q) (hRf : 2 ≤ R.frames) (hRl : 47 ≤ R.locals) (hret : ∀ (t_twins : Nat → Int32) (H : Heap) (locs : List Loc) (ls : Array Slot) (pc : Nat), va_P G vwCl (w_X4_findTwins Y h_t h_p1 B_t B_p1 t_named t_twins p1_n p1_cells) H → va_D A (w_X4_findTwins Y h_t h_p1 B_t B_p1 t_named t_twins p1_n p1_cells) → va_S A s.heap H locs → K t_twins → decode cX4_findTwins pc = .ok (.return_, 1) → W p l e R s m args below meth c H locs 0 0 Q (F0 m pc ls [])) (hP : va_P G vwCl (w_X4_findTwins Y h_t h_p1 B_t B_p1 t_named t_twins p1_n p1_cells) s.heap) (hD : va_D A (w_X4_findTwins Y h_t h_p1 B_t B_p1 t_named t_twins p1_n p1_cells)) (h : pX4_findTwins t_twins p1_n p1_cells K) : W p l e R s m args below meth c s.heap [] 0 0 Q (entryFrame m ([.ref h_t, .ref h_p1] : List Value).toArray 4) := by
  have inX4 : ∀ w ∈ u_ws RX4 TX4 6, w ∈ wsX4_findTwins := by decide +kernel
  have inX7 : ∀ w ∈ u_ws RX7 TX7 2, w ∈ wsX4_findTwins := by decide +kernel
  have hf27 := hts (.fieldLink RX4 27 "RackBench$Namer" "twins" "[I") (by decide +kernel)
  have hl := lv_entry ([.ref h_t, .ref h_p1]) (n := 4) (Nat.le_of_ble_eq_true rfl)
  rw [lg_entry_eq]
  generalize (lg_sl ([.ref h_t, .ref h_p1]) ++ List.replicate (4 - (lg_sl ([.ref h_t, .ref h_p1])).length) Slot.unset).toArray = ls at hl ⊢
  have hl : lv_has ls 4 [(0, .ref h_t), (1, .ref h_p1)] := hl
  generalize hH0 : s.heap = H at hP ⊢
  have hS : va_S A s.heap H [] := by rw [← hH0]; exact va_S.rf
  clear hH0
  generalize ([] : List Loc) = locs at hS ⊢
  refine lv_iconst (v := 0) hx hb dX4_findTwins_0 (by decide) ?_
  refine lv_istore_n (lv' := [(2, .int (0 : Int32)), (0, .ref h_t), (1, .ref h_p1)]) hx hb dX4_findTwins_1 rfl hl (by decide) rfl (fun ls hl => ?_)
  obtain ⟨I2, m2, hI2, hB2⟩ := h
  have L2 : ∀  (I2 : Int32 → (Nat → Int32) → Prop) (m2 : Int32 → (Nat → Int32) → Nat), (∀ (x2 : Int32) (t_twins : Nat → Int32), I2 x2 t_twins → pX4_findTwins_2 p1_n p1_cells K x2 t_twins (fun x2' t_twins' => I2 x2' t_twins' ∧ m2 x2' t_twins' < m2 x2 t_twins)) → ∀ (n : Nat) (x2 : Int32) (t_twins : Nat → Int32) (H : Heap) (locs : List Loc) (ls : Array Slot), I2 x2 t_twins → m2 x2 t_twins < n → va_P G vwCl (w_X4_findTwins Y h_t h_p1 B_t B_p1 t_named t_twins p1_n p1_cells) H → va_D A (w_X4_findTwins Y h_t h_p1 B_t B_p1 t_named t_twins p1_n p1_cells) → va_S A s.heap H locs → lv_has ls 4 [(0, .ref h_t), (1, .ref h_p1), (2, .int x2)] → W p l e R s m args below meth c H locs 0 0 Q (F0 m 2 ls []) := by
    intro  I2 m2 hB2 n
    induction n with
    | zero => intro x2 t_twins H locs ls _ hm; exact absurd hm (Nat.not_lt_zero _)
    | succ n ih =>
      intro x2 t_twins H locs ls hI hm hP hD hS hl
      obtain ⟨R2, h, rec2⟩ : ∃ R2 : Int32 → (Nat → Int32) → Prop, pX4_findTwins_2 p1_n p1_cells K x2 t_twins R2 ∧ ∀ (x2 : Int32) (t_twins : Nat → Int32) (H : Heap) (locs : List Loc) (ls : Array Slot), R2 x2 t_twins → va_P G vwCl (w_X4_findTwins Y h_t h_p1 B_t B_p1 t_named t_twins p1_n p1_cells) H → va_D A (w_X4_findTwins Y h_t h_p1 B_t B_p1 t_named t_twins p1_n p1_cells) → va_S A s.heap H locs → lv_has ls 4 [(0, .ref h_t), (1, .ref h_p1), (2, .int x2)] → W p l e R s m args below meth c H locs 0 0 Q (F0 m 2 ls []) := ⟨_, hB2 x2 t_twins hI, fun x2 t_twins H locs ls hh hP hD hS hl => ih x2 t_twins H locs ls hh.1 (Nat.lt_of_lt_of_le hh.2 (Nat.le_of_lt_succ hm)) hP hD hS hl⟩
      refine lv_iload_n hx hb dX4_findTwins_2 rfl (lv_at hl 2 rfl) ?_
      refine lv_aload_n hx hb dX4_findTwins_3 rfl (lv_at hl 1 rfl) ?_
      refine va_getN (D := G) (ci := 6) (v := .int p1_n) (C := RX7) (T := TX7) (N := 2) hx hb hts inX7 hown hK hP 2 rfl rfl 1 (by decide) (hE.nest args 10 _ rfl) (fun _ h9 => h9) rfl dX4_findTwins_4 ?_
      obtain ⟨ht, hf⟩ := h
      refine lv_icmp_ge (tgt := 57) hx hb dX4_findTwins_7 (by decide) (fun c9 => ?_) (fun c9 => ?_)
      · have h := ht c9
        exact hret t_twins H locs ls _ hP hD hS h dX4_findTwins_57
      · have h := hf c9
        refine lv_aload_n hx hb dX4_findTwins_10 rfl (lv_at hl 0 rfl) ?_
        refine va_get (D := G) (ci := 4) (v := .ref (B_t 3)) (C := RX4) (T := TX4) (N := 6) hx hb hts inX4 hown hK hP 0 rfl rfl 3 (by decide) hf27 (fun _ h9 => h9) rfl dX4_findTwins_11 ?_
        refine lv_iload_n hx hb dX4_findTwins_14 rfl (lv_at hl 2 rfl) ?_
        refine lv_iconst (v := 0) hx hb dX4_findTwins_15 (by decide) ?_
        obtain ⟨hin, h⟩ := h
        refine va_iast hx hb hK hP hD hS 1 0 rfl rfl hin dX4_findTwins_16 (fun H locs hP hD hS => ?_)
        have hP : va_P G vwCl (w_X4_findTwins Y h_t h_p1 B_t B_p1 t_named (upd t_twins (Int32.toNatClampNeg x2) (0 : Int32)) p1_n p1_cells) H := hP
        have hD : va_D A (w_X4_findTwins Y h_t h_p1 B_t B_p1 t_named (upd t_twins (Int32.toNatClampNeg x2) (0 : Int32)) p1_n p1_cells) := hD
        refine lv_iconst (v := 0) hx hb dX4_findTwins_17 (by decide) ?_
        refine lv_istore_n (lv' := [(3, .int (0 : Int32)), (0, .ref h_t), (1, .ref h_p1), (2, .int x2)]) hx hb dX4_findTwins_18 rfl hl (by decide) rfl (fun ls hl => ?_)
        obtain ⟨I19, m19, hI19, hB19⟩ := h
        have L19 : ∀ (x2 : Int32) (I19 : Int32 → (Nat → Int32) → Prop) (m19 : Int32 → (Nat → Int32) → Nat), (∀ (x3 : Int32) (t_twins : Nat → Int32), I19 x3 t_twins → pX4_findTwins_19 p1_n p1_cells R2 K x2 x3 t_twins (fun x3' t_twins' => I19 x3' t_twins' ∧ m19 x3' t_twins' < m19 x3 t_twins)) → ∀ (n : Nat) (x3 : Int32) (t_twins : Nat → Int32) (H : Heap) (locs : List Loc) (ls : Array Slot), I19 x3 t_twins → m19 x3 t_twins < n → va_P G vwCl (w_X4_findTwins Y h_t h_p1 B_t B_p1 t_named t_twins p1_n p1_cells) H → va_D A (w_X4_findTwins Y h_t h_p1 B_t B_p1 t_named t_twins p1_n p1_cells) → va_S A s.heap H locs → lv_has ls 4 [(0, .ref h_t), (1, .ref h_p1), (2, .int x2), (3, .int x3)] → W p l e R s m args below meth c H locs 0 0 Q (F0 m 19 ls []) := by
          intro x2 I19 m19 hB19 n
          induction n with
          | zero => intro x3 t_twins H locs ls _ hm; exact absurd hm (Nat.not_lt_zero _)
          | succ n ih =>
            intro x3 t_twins H locs ls hI hm hP hD hS hl
            obtain ⟨R19, h, rec19⟩ : ∃ R19 : Int32 → (Nat → Int32) → Prop, pX4_findTwins_19 p1_n p1_cells R2 K x2 x3 t_twins R19 ∧ ∀ (x3 : Int32) (t_twins : Nat → Int32) (H : Heap) (locs : List Loc) (ls : Array Slot), R19 x3 t_twins → va_P G vwCl (w_X4_findTwins Y h_t h_p1 B_t B_p1 t_named t_twins p1_n p1_cells) H → va_D A (w_X4_findTwins Y h_t h_p1 B_t B_p1 t_named t_twins p1_n p1_cells) → va_S A s.heap H locs → lv_has ls 4 [(0, .ref h_t), (1, .ref h_p1), (2, .int x2), (3, .int x3)] → W p l e R s m args below meth c H locs 0 0 Q (F0 m 19 ls []) := ⟨_, hB19 x3 t_twins hI, fun x3 t_twins H locs ls hh hP hD hS hl => ih x3 t_twins H locs ls hh.1 (Nat.lt_of_lt_of_le hh.2 (Nat.le_of_lt_succ hm)) hP hD hS hl⟩
            refine lv_iload_n hx hb dX4_findTwins_19 rfl (lv_at hl 3 rfl) ?_
            refine lv_iload_n hx hb dX4_findTwins_20 rfl (lv_at hl 2 rfl) ?_
            obtain ⟨ht, hf⟩ := h
            refine lv_icmp_ge (tgt := 51) hx hb dX4_findTwins_21 (by decide) (fun c9 => ?_) (fun c9 => ?_)
            · have h := ht c9
              refine lv_iinc (v := (x2 + 1)) (lv' := [(2, .int (x2 + 1)), (0, .ref h_t), (1, .ref h_p1), (3, .int x3)]) hx hb dX4_findTwins_51 hl (k := 2) rfl rfl (by decide) rfl (fun ls hl => ?_)
              refine lv_goto (tgt := 2) hx hb dX4_findTwins_54 (by decide) ?_
              exact rec2 (x2 + 1) t_twins H locs ls h hP hD hS (lv_sub hl [1, 2, 0] rfl)
            · have h := hf c9
              refine lv_aload_n hx hb dX4_findTwins_24 rfl (lv_at hl 1 rfl) ?_
              refine lv_iload_n hx hb dX4_findTwins_25 rfl (lv_at hl 2 rfl) ?_
              refine lv_iload_n hx hb dX4_findTwins_26 rfl (lv_at hl 3 rfl) ?_
              refine mc_iS ⟨hx, hb, hml, hown, hts⟩ hK hE hA hP hD hS (c_X4_areTwins l G Y tF H.size h_p1 B_p1 p1_n p1_cells x2 x3 h) (va_cwS 3 hts gX4_findTwins_X4_areTwins rfl rfl rfl (by decide +kernel) ⟨Nat.le_trans (by decide) hRf, Nat.le_trans (by decide) hRl⟩) (fun u => (w_X4_findTwins Y h_t h_p1 B_t B_p1 t_named t_twins p1_n p1_cells)) [2, 3] [0, 1] [0, 1, 2, 3] rfl rfl rfl rfl (by decide) (fun _ => rfl) rfl rfl hl.1 rfl (Nat.le_of_ble_eq_true rfl) dX4_findTwins_27 (fun r27 u H locs h hP hD hS => ?_)
              try dsimp only at h
              have hP : va_P G vwCl (w_X4_findTwins Y h_t h_p1 B_t B_p1 t_named t_twins p1_n p1_cells) H := hP
              have hD : va_D A (w_X4_findTwins Y h_t h_p1 B_t B_p1 t_named t_twins p1_n p1_cells) := hD
              obtain ⟨ht, hf⟩ := h
              refine lv_if_eq (tgt := 45) hx hb dX4_findTwins_30 (by decide) (fun c9 => ?_) (fun c9 => ?_)
              · have h := ht c9
                refine lv_iinc (v := (x3 + 1)) (lv' := [(3, .int (x3 + 1)), (0, .ref h_t), (1, .ref h_p1), (2, .int x2)]) hx hb dX4_findTwins_45 hl (k := 3) rfl rfl (by decide) rfl (fun ls hl => ?_)
                refine lv_goto (tgt := 19) hx hb dX4_findTwins_48 (by decide) ?_
                exact rec19 (x3 + 1) t_twins H locs ls h hP hD hS (lv_sub hl [1, 2, 3, 0] rfl)
              · have h := hf c9
                refine lv_aload_n hx hb dX4_findTwins_33 rfl (lv_at hl 0 rfl) ?_
                refine va_get (D := G) (ci := 4) (v := .ref (B_t 3)) (C := RX4) (T := TX4) (N := 6) hx hb hts inX4 hown hK hP 0 rfl rfl 3 (by decide) hf27 (fun _ h9 => h9) rfl dX4_findTwins_34 ?_
                refine lv_iload_n hx hb dX4_findTwins_37 rfl (lv_at hl 2 rfl) ?_
                refine lv_dup2_11 hx hb dX4_findTwins_38 rfl rfl ?_
                obtain ⟨hin, h⟩ := h
                refine va_iald hx hb hK hP 1 0 rfl rfl hin dX4_findTwins_39 ?_
                refine lv_iconst (v := 1) hx hb dX4_findTwins_40 (by decide) ?_
                refine lv_iload_n hx hb dX4_findTwins_41 rfl (lv_at hl 3 rfl) ?_
                refine lv_ishl hx hb dX4_findTwins_42 ?_
                refine lv_ior hx hb dX4_findTwins_43 ?_
                obtain ⟨hin, h⟩ := h
                refine va_iast hx hb hK hP hD hS 1 0 rfl rfl hin dX4_findTwins_44 (fun H locs hP hD hS => ?_)
                have hP : va_P G vwCl (w_X4_findTwins Y h_t h_p1 B_t B_p1 t_named (upd t_twins (Int32.toNatClampNeg x2) ((t_twins (Int32.toNatClampNeg x2)) ||| ((1 : Int32) <<< (x3 &&& 31)))) p1_n p1_cells) H := hP
                have hD : va_D A (w_X4_findTwins Y h_t h_p1 B_t B_p1 t_named (upd t_twins (Int32.toNatClampNeg x2) ((t_twins (Int32.toNatClampNeg x2)) ||| ((1 : Int32) <<< (x3 &&& 31)))) p1_n p1_cells) := hD
                refine lv_iinc (v := (x3 + 1)) (lv' := [(3, .int (x3 + 1)), (0, .ref h_t), (1, .ref h_p1), (2, .int x2)]) hx hb dX4_findTwins_45 hl (k := 3) rfl rfl (by decide) rfl (fun ls hl => ?_)
                refine lv_goto (tgt := 19) hx hb dX4_findTwins_48 (by decide) ?_
                exact rec19 (x3 + 1) (upd t_twins (Int32.toNatClampNeg x2) ((t_twins (Int32.toNatClampNeg x2)) ||| ((1 : Int32) <<< (x3 &&& 31)))) H locs ls h hP hD hS (lv_sub hl [1, 2, 3, 0] rfl)
        exact L19 x2 I19 m19 hB19 _ (0 : Int32) (upd t_twins (Int32.toNatClampNeg x2) (0 : Int32)) H locs ls hI19 (Nat.lt_succ_self _) hP hD hS (lv_sub hl [1, 2, 3, 0] rfl)
  exact L2  I2 m2 hB2 _ (0 : Int32) t_twins H locs ls hI2 (Nat.lt_succ_self _) hP hD hS (lv_sub hl [1, 2, 0] rfl)

set_option maxHeartbeats 4000000 in
set_option maxRecDepth 100000 in
theorem c_X4_findTwins (l : Launch) (G : va_G) (Y : Nat → ClassId) (tF sz : Nat) (h_t : Nat) (h_p1 : Nat) (B_t : Nat → Nat) (B_p1 : Nat → Nat) (t_named : Int32) (t_twins : Nat → Int32) (p1_n : Int32) (p1_cells : Nat → Int32) {K : (Nat → Int32) → Prop} (h : pX4_findTwins t_twins p1_n p1_cells K) : Met l yX4_findTwins wsX4_findTwins ({ frames := 2, cells := 0, slots := 0, locals := 47 }) (PcM G Y tF sz (w_X4_findTwins Y h_t h_p1 B_t B_p1 t_named t_twins p1_n p1_cells) [.ref h_t, .ref h_p1]) (va_Qv (fun u : (Nat → Int32) => K u) (fun u t => BM G Y (va_A (w_X4_findTwins Y h_t h_p1 B_t B_p1 t_named t_twins p1_n p1_cells) sz) (w_X4_findTwins Y h_t h_p1 B_t B_p1 t_named u p1_n p1_cells) t) (va_A (w_X4_findTwins Y h_t h_p1 B_t B_p1 t_named t_twins p1_n p1_cells) sz)) 0 0 (va_A (w_X4_findTwins Y h_t h_p1 B_t B_p1 t_named t_twins p1_n p1_cells) sz) := by
  refine Met.ofW (cc := cX4_findTwins) (maxL := 4) (ret := none) (by decide +kernel) rfl ?_
  intro p e s m args below meth c s₁ B hml hv
  obtain ⟨rfl, hsz, hP, hK, hD0, hE⟩ := hv
  have hts := atoms_spec (ws := wsX4_findTwins) B.pre
  have hown : s.vm.findClass RX4 = some m.cls := findClass_of_methodNamed B.named
  have hlocks := B.notSynchronized
  subst hsz
  have hD := hD0.self (sz := s.heap.size)
  exact wk_X4_findTwins h_t h_p1 B_t B_p1 t_named t_twins p1_n p1_cells B.exec B.bytes hml hown hts hK hE (fun q h => Or.inr h) (Nat.le_refl _) (Nat.le_refl _) (fun t_twins H locs ls pc hP hD hS hk hd => W.vret B.exec B.bytes B.returns (fun t ht hW => ⟨⟨t_twins, rfl, hk, by rw [ht]; exact hP, va_K.moved hW.alike hK, hD⟩, hS.F ht⟩) hS.2.2 hd) hP hD h

abbrev w_X4_isLess (Y : Nat → ClassId) (h_t : Nat) (h_p1 : Nat) (B_t : Nat → Nat) (B_t_best : Nat → Nat) (B_p1 : Nat → Nat) (t_named : Int32) (t_best_n : Int32) (t_best_cells : Nat → Int32) (t_names : Nat → Int32) (t_things : Nat → Int32) (p1_n : Int32) (p1_cells : Nat → Int32) : va_W := [(h_t, .inr (4, [.ref (B_t 0), .ref (B_t 1), .ref (B_t 2), .ref (B_t 3), .ref (B_t 4), .int t_named])), ((B_t 0), .inr (6, [.ref (B_t_best 0), .int t_best_n])), ((B_t_best 0), .inl (Y 0, 64, .inl t_best_cells)), ((B_t 2), .inl (Y 0, 8, .inl t_names)), ((B_t 1), .inl (Y 0, 8, .inl t_things)), (h_p1, .inr (6, [.ref (B_p1 0), .int p1_n])), ((B_p1 0), .inl (Y 0, 64, .inl p1_cells))]

set_option maxHeartbeats 4000000 in
set_option maxRecDepth 100000 in
theorem wk_X4_isLess {p : Program} {l : Launch} {e : Env} {R : Room} {s : State} {m : MethodId} {args : Array Value} {below : List Frame} {meth : Method} {c : Code} {Q : State → Prop} {G : va_G} {Y : Nat → ClassId} {tF : Nat} {A : Nat → Prop} (h_t : Nat) (h_p1 : Nat) (B_t : Nat → Nat) (B_t_best : Nat → Nat) (B_p1 : Nat → Nat) (t_named : Int32) (t_best_n : Int32) (t_best_cells : Nat → Int32) (t_names : Nat → Int32) (t_things : Nat → Int32) (p1_n : Int32) (p1_cells : Nat → Int32) {K : Int32 → Prop} (hx : p.tables.exec = Jvm.exec) (hb : c.code = cX4_isLess) (hml : c.maxLocals = 5) (hown : s.vm.findClass RX4 = some m.cls) (hts : ∀ w ∈ wsX4_isLess, w.before args s = true) (hK : va_K G vwCl (tyL Y) s) (hE : Ev A tF s) (hA : ∀ q, s.heap.size ≤ q → A q) (hRf : 1 ≤ R.frames) (hRl : 22 ≤ R.locals) (hret : ∀ (r : Int32)  (H : Heap) (locs : List Loc) (ls : Array Slot) (pc : Nat), va_P G vwCl (w_X4_isLess Y h_t h_p1 B_t B_t_best B_p1 t_named t_best_n t_best_cells t_names t_things p1_n p1_cells) H → va_D A (w_X4_isLess Y h_t h_p1 B_t B_t_best B_p1 t_named t_best_n t_best_cells t_names t_things p1_n p1_cells) → va_S A s.heap H locs → zb r → K r → decode cX4_isLess pc = .ok (.ireturn, 1) → W p l e R s m args below meth c H locs 0 0 Q (F0 m pc ls [.int r])) (hP : va_P G vwCl (w_X4_isLess Y h_t h_p1 B_t B_t_best B_p1 t_named t_best_n t_best_cells t_names t_things p1_n p1_cells) s.heap) (hD : va_D A (w_X4_isLess Y h_t h_p1 B_t B_t_best B_p1 t_named t_best_n t_best_cells t_names t_things p1_n p1_cells)) (h : pX4_isLess t_best_cells t_names t_things p1_n p1_cells K) : W p l e R s m args below meth c s.heap [] 0 0 Q (entryFrame m ([.ref h_t, .ref h_p1] : List Value).toArray 5) := by
  have inX4 : ∀ w ∈ u_ws RX4 TX4 6, w ∈ wsX4_isLess := by decide +kernel
  have inX7 : ∀ w ∈ u_ws RX7 TX7 2, w ∈ wsX4_isLess := by decide +kernel
  have hf14 := hts (.fieldLink RX4 14 "RackBench$Namer" "best" "LRackBench$Table;") (by decide +kernel)
  have hf20 := hts (.fieldLink RX4 20 "RackBench$Namer" "things" "[I") (by decide +kernel)
  have hf24 := hts (.fieldLink RX4 24 "RackBench$Namer" "names" "[I") (by decide +kernel)
  have hl := lv_entry ([.ref h_t, .ref h_p1]) (n := 5) (Nat.le_of_ble_eq_true rfl)
  rw [lg_entry_eq]
  generalize (lg_sl ([.ref h_t, .ref h_p1]) ++ List.replicate (5 - (lg_sl ([.ref h_t, .ref h_p1])).length) Slot.unset).toArray = ls at hl ⊢
  have hl : lv_has ls 5 [(0, .ref h_t), (1, .ref h_p1)] := hl
  generalize hH0 : s.heap = H at hP ⊢
  have hS : va_S A s.heap H [] := by rw [← hH0]; exact va_S.rf
  clear hH0
  generalize ([] : List Loc) = locs at hS ⊢
  refine lv_iconst (v := 0) hx hb dX4_isLess_0 (by decide) ?_
  refine lv_istore_n (lv' := [(2, .int (0 : Int32)), (0, .ref h_t), (1, .ref h_p1)]) hx hb dX4_isLess_1 rfl hl (by decide) rfl (fun ls hl => ?_)
  obtain ⟨I2, m2, hI2, hB2⟩ := h
  have L2 : ∀  (I2 : Int32 → Prop) (m2 : Int32 → Nat), (∀ (x2 : Int32), I2 x2 → pX4_isLess_2 t_best_cells t_names t_things p1_n p1_cells K x2 (fun x2' => I2 x2' ∧ m2 x2' < m2 x2)) → ∀ (n : Nat) (x2 : Int32) (H : Heap) (locs : List Loc) (ls : Array Slot), I2 x2 → m2 x2 < n → va_P G vwCl (w_X4_isLess Y h_t h_p1 B_t B_t_best B_p1 t_named t_best_n t_best_cells t_names t_things p1_n p1_cells) H → va_D A (w_X4_isLess Y h_t h_p1 B_t B_t_best B_p1 t_named t_best_n t_best_cells t_names t_things p1_n p1_cells) → va_S A s.heap H locs → lv_has ls 5 [(0, .ref h_t), (1, .ref h_p1), (2, .int x2)] → W p l e R s m args below meth c H locs 0 0 Q (F0 m 2 ls []) := by
    intro  I2 m2 hB2 n
    induction n with
    | zero => intro x2 H locs ls _ hm; exact absurd hm (Nat.not_lt_zero _)
    | succ n ih =>
      intro x2 H locs ls hI hm hP hD hS hl
      obtain ⟨R2, h, rec2⟩ : ∃ R2 : Int32 → Prop, pX4_isLess_2 t_best_cells t_names t_things p1_n p1_cells K x2 R2 ∧ ∀ (x2 : Int32) (H : Heap) (locs : List Loc) (ls : Array Slot), R2 x2 → va_P G vwCl (w_X4_isLess Y h_t h_p1 B_t B_t_best B_p1 t_named t_best_n t_best_cells t_names t_things p1_n p1_cells) H → va_D A (w_X4_isLess Y h_t h_p1 B_t B_t_best B_p1 t_named t_best_n t_best_cells t_names t_things p1_n p1_cells) → va_S A s.heap H locs → lv_has ls 5 [(0, .ref h_t), (1, .ref h_p1), (2, .int x2)] → W p l e R s m args below meth c H locs 0 0 Q (F0 m 2 ls []) := ⟨_, hB2 x2 hI, fun x2 H locs ls hh hP hD hS hl => ih x2 H locs ls hh.1 (Nat.lt_of_lt_of_le hh.2 (Nat.le_of_lt_succ hm)) hP hD hS hl⟩
      refine lv_iload_n hx hb dX4_isLess_2 rfl (lv_at hl 2 rfl) ?_
      refine lv_aload_n hx hb dX4_isLess_3 rfl (lv_at hl 1 rfl) ?_
      refine va_getN (D := G) (ci := 6) (v := .int p1_n) (C := RX7) (T := TX7) (N := 2) hx hb hts inX7 hown hK hP 5 rfl rfl 1 (by decide) (hE.nest args 10 _ rfl) (fun _ h9 => h9) rfl dX4_isLess_4 ?_
      obtain ⟨ht, hf⟩ := h
      refine lv_icmp_ge (tgt := 89) hx hb dX4_isLess_7 (by decide) (fun c9 => ?_) (fun c9 => ?_)
      · have h := ht c9
        refine lv_iconst (v := 0) hx hb dX4_isLess_89 (by decide) ?_
        obtain ⟨hz, h⟩ := h
        exact hret (0 : Int32)  H locs ls _ hP hD hS hz h dX4_isLess_90
      · have h := hf c9
        refine lv_iconst (v := 0) hx hb dX4_isLess_10 (by decide) ?_
        refine lv_istore_n (lv' := [(3, .int (0 : Int32)), (0, .ref h_t), (1, .ref h_p1), (2, .int x2)]) hx hb dX4_isLess_11 rfl hl (by decide) rfl (fun ls hl => ?_)
        obtain ⟨I12, m12, hI12, hB12⟩ := h
        have L12 : ∀ (x2 : Int32) (I12 : Int32 → Prop) (m12 : Int32 → Nat), (∀ (x3 : Int32), I12 x3 → pX4_isLess_12 t_best_cells t_names t_things p1_n p1_cells R2 K x2 x3 (fun x3' => I12 x3' ∧ m12 x3' < m12 x3)) → ∀ (n : Nat) (x3 : Int32) (H : Heap) (locs : List Loc) (ls : Array Slot), I12 x3 → m12 x3 < n → va_P G vwCl (w_X4_isLess Y h_t h_p1 B_t B_t_best B_p1 t_named t_best_n t_best_cells t_names t_things p1_n p1_cells) H → va_D A (w_X4_isLess Y h_t h_p1 B_t B_t_best B_p1 t_named t_best_n t_best_cells t_names t_things p1_n p1_cells) → va_S A s.heap H locs → lv_has ls 5 [(0, .ref h_t), (1, .ref h_p1), (2, .int x2), (3, .int x3)] → W p l e R s m args below meth c H locs 0 0 Q (F0 m 12 ls []) := by
          intro x2 I12 m12 hB12 n
          induction n with
          | zero => intro x3 H locs ls _ hm; exact absurd hm (Nat.not_lt_zero _)
          | succ n ih =>
            intro x3 H locs ls hI hm hP hD hS hl
            obtain ⟨R12, h, rec12⟩ : ∃ R12 : Int32 → Prop, pX4_isLess_12 t_best_cells t_names t_things p1_n p1_cells R2 K x2 x3 R12 ∧ ∀ (x3 : Int32) (H : Heap) (locs : List Loc) (ls : Array Slot), R12 x3 → va_P G vwCl (w_X4_isLess Y h_t h_p1 B_t B_t_best B_p1 t_named t_best_n t_best_cells t_names t_things p1_n p1_cells) H → va_D A (w_X4_isLess Y h_t h_p1 B_t B_t_best B_p1 t_named t_best_n t_best_cells t_names t_things p1_n p1_cells) → va_S A s.heap H locs → lv_has ls 5 [(0, .ref h_t), (1, .ref h_p1), (2, .int x2), (3, .int x3)] → W p l e R s m args below meth c H locs 0 0 Q (F0 m 12 ls []) := ⟨_, hB12 x3 hI, fun x3 H locs ls hh hP hD hS hl => ih x3 H locs ls hh.1 (Nat.lt_of_lt_of_le hh.2 (Nat.le_of_lt_succ hm)) hP hD hS hl⟩
            refine lv_iload_n hx hb dX4_isLess_12 rfl (lv_at hl 3 rfl) ?_
            refine lv_aload_n hx hb dX4_isLess_13 rfl (lv_at hl 1 rfl) ?_
            refine va_getN (D := G) (ci := 6) (v := .int p1_n) (C := RX7) (T := TX7) (N := 2) hx hb hts inX7 hown hK hP 5 rfl rfl 1 (by decide) (hE.nest args 10 _ rfl) (fun _ h9 => h9) rfl dX4_isLess_14 ?_
            obtain ⟨ht, hf⟩ := h
            refine lv_icmp_ge (tgt := 83) hx hb dX4_isLess_17 (by decide) (fun c9 => ?_) (fun c9 => ?_)
            · have h := ht c9
              refine lv_iinc (v := (x2 + 1)) (lv' := [(2, .int (x2 + 1)), (0, .ref h_t), (1, .ref h_p1), (3, .int x3)]) hx hb dX4_isLess_83 hl (k := 2) rfl rfl (by decide) rfl (fun ls hl => ?_)
              refine lv_goto (tgt := 2) hx hb dX4_isLess_86 (by decide) ?_
              exact rec2 (x2 + 1) H locs ls h hP hD hS (lv_sub hl [1, 2, 0] rfl)
            · have h := hf c9
              refine lv_aload_n hx hb dX4_isLess_20 rfl (lv_at hl 0 rfl) ?_
              refine va_get (D := G) (ci := 4) (v := .ref (B_t 2)) (C := RX4) (T := TX4) (N := 6) hx hb hts inX4 hown hK hP 0 rfl rfl 2 (by decide) hf24 (fun _ h9 => h9) rfl dX4_isLess_21 ?_
              refine lv_aload_n hx hb dX4_isLess_24 rfl (lv_at hl 1 rfl) ?_
              refine lv_aload_n hx hb dX4_isLess_25 rfl (lv_at hl 0 rfl) ?_
              refine va_get (D := G) (ci := 4) (v := .ref (B_t 1)) (C := RX4) (T := TX4) (N := 6) hx hb hts inX4 hown hK hP 0 rfl rfl 1 (by decide) hf20 (fun _ h9 => h9) rfl dX4_isLess_26 ?_
              refine lv_iload_n hx hb dX4_isLess_29 rfl (lv_at hl 2 rfl) ?_
              obtain ⟨hin, h⟩ := h
              refine va_iald hx hb hK hP 4 0 rfl rfl hin dX4_isLess_30 ?_
              refine lv_aload_n hx hb dX4_isLess_31 rfl (lv_at hl 0 rfl) ?_
              refine va_get (D := G) (ci := 4) (v := .ref (B_t 1)) (C := RX4) (T := TX4) (N := 6) hx hb hts inX4 hown hK hP 0 rfl rfl 1 (by decide) hf20 (fun _ h9 => h9) rfl dX4_isLess_32 ?_
              refine lv_iload_n hx hb dX4_isLess_35 rfl (lv_at hl 3 rfl) ?_
              obtain ⟨hin, h⟩ := h
              refine va_iald hx hb hK hP 4 0 rfl rfl hin dX4_isLess_36 ?_
              refine mc_iV ⟨hx, hb, hml, hown, hts⟩ hK hE hA hP hD hS (c_X7_turned l G Y tF H.size h_p1 B_p1 p1_n p1_cells (t_things (Int32.toNatClampNeg x2)) (t_things (Int32.toNatClampNeg x3)) h) (cwV 2 hts gX4_isLess_X7_turned rfl rfl rfl (by decide +kernel) ⟨Nat.le_trans (by decide) hRf, Nat.le_trans (by decide) hRl⟩) (fun u => (w_X4_isLess Y h_t h_p1 B_t B_t_best B_p1 t_named t_best_n t_best_cells t_names t_things p1_n p1_cells)) [5, 6] [0, 1, 2, 3, 4] [0, 1, 2, 3, 4, 5, 6] rfl rfl rfl rfl (by decide) (fun _ => rfl) rfl 5 6 rfl rfl rfl rfl hl.1 rfl (Nat.le_of_ble_eq_true rfl) dX4_isLess_37 (fun r37 u H locs h hP hD hS => ?_)
              try dsimp only at h
              have hP : va_P G vwCl (w_X4_isLess Y h_t h_p1 B_t B_t_best B_p1 t_named t_best_n t_best_cells t_names t_things p1_n p1_cells) H := hP
              have hD : va_D A (w_X4_isLess Y h_t h_p1 B_t B_t_best B_p1 t_named t_best_n t_best_cells t_names t_things p1_n p1_cells) := hD
              obtain ⟨hin, h⟩ := h
              refine va_iald hx hb hK hP 3 0 rfl rfl hin dX4_isLess_40 ?_
              refine lv_istore (lv' := [(4, .int (t_names (Int32.toNatClampNeg r37))), (0, .ref h_t), (1, .ref h_p1), (2, .int x2), (3, .int x3)]) hx hb dX4_isLess_41 hl (by decide) rfl (fun ls hl => ?_)
              refine lv_iload hx hb dX4_isLess_43 (lv_at hl 0 rfl) ?_
              refine lv_aload_n hx hb dX4_isLess_45 rfl (lv_at hl 1 rfl) ?_
              refine va_get (D := G) (ci := 4) (v := .ref (B_t 0)) (C := RX4) (T := TX4) (N := 6) hx hb hts inX4 hown hK hP 0 rfl rfl 0 (by decide) hf14 (fun _ h9 => h9) rfl dX4_isLess_46 ?_
              refine lv_iload_n hx hb dX4_isLess_49 rfl (lv_at hl 3 rfl) ?_
              refine lv_iload_n hx hb dX4_isLess_50 rfl (lv_at hl 4 rfl) ?_
              refine mc_iV ⟨hx, hb, hml, hown, hts⟩ hK hE hA hP hD hS (c_X7_turned l G Y tF H.size (B_t 0) B_t_best t_best_n t_best_cells x2 x3 h) (cwV 2 hts gX4_isLess_X7_turned rfl rfl rfl (by decide +kernel) ⟨Nat.le_trans (by decide) hRf, Nat.le_trans (by decide) hRl⟩) (fun u => (w_X4_isLess Y h_t h_p1 B_t B_t_best B_p1 t_named t_best_n t_best_cells t_names t_things p1_n p1_cells)) [1, 2] [0, 3, 4, 5, 6] [0, 5, 6, 1, 2, 3, 4] rfl rfl rfl rfl (by decide) (fun _ => rfl) rfl 1 6 rfl rfl rfl rfl hl.1 rfl (Nat.le_of_ble_eq_true rfl) dX4_isLess_51 (fun r51 u H locs h hP hD hS => ?_)
              try dsimp only at h
              have hP : va_P G vwCl (w_X4_isLess Y h_t h_p1 B_t B_t_best B_p1 t_named t_best_n t_best_cells t_names t_things p1_n p1_cells) H := hP
              have hD : va_D A (w_X4_isLess Y h_t h_p1 B_t B_t_best B_p1 t_named t_best_n t_best_cells t_names t_things p1_n p1_cells) := hD
              obtain ⟨ht, hf⟩ := h
              refine lv_icmp_eq (tgt := 77) hx hb dX4_isLess_54 (by decide) (fun c9 => ?_) (fun c9 => ?_)
              · have h := ht c9
                refine lv_iinc (v := (x3 + 1)) (lv' := [(3, .int (x3 + 1)), (4, .int (t_names (Int32.toNatClampNeg r37))), (0, .ref h_t), (1, .ref h_p1), (2, .int x2)]) hx hb dX4_isLess_77 hl (k := 4) rfl rfl (by decide) rfl (fun ls hl => ?_)
                refine lv_goto (tgt := 12) hx hb dX4_isLess_80 (by decide) ?_
                exact rec12 (x3 + 1) H locs ls h hP hD hS (lv_sub hl [2, 3, 4, 0] rfl)
              · have h := hf c9
                refine lv_iload hx hb dX4_isLess_57 (lv_at hl 0 rfl) ?_
                refine lv_aload_n hx hb dX4_isLess_59 rfl (lv_at hl 1 rfl) ?_
                refine va_get (D := G) (ci := 4) (v := .ref (B_t 0)) (C := RX4) (T := TX4) (N := 6) hx hb hts inX4 hown hK hP 0 rfl rfl 0 (by decide) hf14 (fun _ h9 => h9) rfl dX4_isLess_60 ?_
                refine lv_iload_n hx hb dX4_isLess_63 rfl (lv_at hl 3 rfl) ?_
                refine lv_iload_n hx hb dX4_isLess_64 rfl (lv_at hl 4 rfl) ?_
                refine mc_iV ⟨hx, hb, hml, hown, hts⟩ hK hE hA hP hD hS (c_X7_turned l G Y tF H.size (B_t 0) B_t_best t_best_n t_best_cells x2 x3 h) (cwV 2 hts gX4_isLess_X7_turned rfl rfl rfl (by decide +kernel) ⟨Nat.le_trans (by decide) hRf, Nat.le_trans (by decide) hRl⟩) (fun u => (w_X4_isLess Y h_t h_p1 B_t B_t_best B_p1 t_named t_best_n t_best_cells t_names t_things p1_n p1_cells)) [1, 2] [0, 3, 4, 5, 6] [0, 5, 6, 1, 2, 3, 4] rfl rfl rfl rfl (by decide) (fun _ => rfl) rfl 1 6 rfl rfl rfl rfl hl.1 rfl (Nat.le_of_ble_eq_true rfl) dX4_isLess_65 (fun r65 u H locs h hP hD hS => ?_)
                try dsimp only at h
                have hP : va_P G vwCl (w_X4_isLess Y h_t h_p1 B_t B_t_best B_p1 t_named t_best_n t_best_cells t_names t_things p1_n p1_cells) H := hP
                have hD : va_D A (w_X4_isLess Y h_t h_p1 B_t B_t_best B_p1 t_named t_best_n t_best_cells t_names t_things p1_n p1_cells) := hD
                obtain ⟨ht, hf⟩ := h
                refine lv_icmp_ge (tgt := 75) hx hb dX4_isLess_68 (by decide) (fun c9 => ?_) (fun c9 => ?_)
                · have h := ht c9
                  refine lv_iconst (v := 0) hx hb dX4_isLess_75 (by decide) ?_
                  obtain ⟨hz, h⟩ := h
                  exact hret (0 : Int32)  H locs ls _ hP hD hS hz h dX4_isLess_76
                · have h := hf c9
                  refine lv_iconst (v := 1) hx hb dX4_isLess_71 (by decide) ?_
                  refine lv_goto (tgt := 76) hx hb dX4_isLess_72 (by decide) ?_
                  obtain ⟨hz, h⟩ := h
                  exact hret (1 : Int32)  H locs ls _ hP hD hS hz h dX4_isLess_76
        exact L12 x2 I12 m12 hB12 _ (0 : Int32) H locs ls hI12 (Nat.lt_succ_self _) hP hD hS (lv_sub hl [1, 2, 3, 0] rfl)
  exact L2  I2 m2 hB2 _ (0 : Int32) H locs ls hI2 (Nat.lt_succ_self _) hP hD hS (lv_sub hl [1, 2, 0] rfl)

set_option maxHeartbeats 4000000 in
set_option maxRecDepth 100000 in
theorem c_X4_isLess (l : Launch) (G : va_G) (Y : Nat → ClassId) (tF sz : Nat) (h_t : Nat) (h_p1 : Nat) (B_t : Nat → Nat) (B_t_best : Nat → Nat) (B_p1 : Nat → Nat) (t_named : Int32) (t_best_n : Int32) (t_best_cells : Nat → Int32) (t_names : Nat → Int32) (t_things : Nat → Int32) (p1_n : Int32) (p1_cells : Nat → Int32) {K : Int32 → Prop} (h : pX4_isLess t_best_cells t_names t_things p1_n p1_cells K) : Met l yX4_isLess wsX4_isLess ({ frames := 1, cells := 0, slots := 0, locals := 22 }) (PcM G Y tF sz (w_X4_isLess Y h_t h_p1 B_t B_t_best B_p1 t_named t_best_n t_best_cells t_names t_things p1_n p1_cells) [.ref h_t, .ref h_p1]) (va_Qi (fun (r : Int32) (u : Unit) => K r ) (fun u t => BM G Y (va_A (w_X4_isLess Y h_t h_p1 B_t B_t_best B_p1 t_named t_best_n t_best_cells t_names t_things p1_n p1_cells) sz) (w_X4_isLess Y h_t h_p1 B_t B_t_best B_p1 t_named t_best_n t_best_cells t_names t_things p1_n p1_cells) t) (va_A (w_X4_isLess Y h_t h_p1 B_t B_t_best B_p1 t_named t_best_n t_best_cells t_names t_things p1_n p1_cells) sz)) 0 0 (va_A (w_X4_isLess Y h_t h_p1 B_t B_t_best B_p1 t_named t_best_n t_best_cells t_names t_things p1_n p1_cells) sz) := by
  refine Met.ofW (cc := cX4_isLess) (maxL := 5) (ret := (some .boolean)) (by decide +kernel) rfl ?_
  intro p e s m args below meth c s₁ B hml hv
  obtain ⟨rfl, hsz, hP, hK, hD0, hE⟩ := hv
  have hts := atoms_spec (ws := wsX4_isLess) B.pre
  have hown : s.vm.findClass RX4 = some m.cls := findClass_of_methodNamed B.named
  have hlocks := B.notSynchronized
  subst hsz
  have hD := hD0.self (sz := s.heap.size)
  exact wk_X4_isLess h_t h_p1 B_t B_t_best B_p1 t_named t_best_n t_best_cells t_names t_things p1_n p1_cells B.exec B.bytes hml hown hts hK hE (fun q h => Or.inr h) (Nat.le_refl _) (Nat.le_refl _) (fun r  H locs ls pc hP hD hS hz hk hd => W.zret (v := r) B.exec B.bytes B.returns hz.n (fun t ht hW => ⟨⟨r, (), rfl, hk, by rw [ht]; exact hP, va_K.moved hW.alike hK, hD⟩, hS.F ht⟩) hS.2.2 hd) hP hD h

abbrev w_X4_makeBest (Y : Nat → ClassId) (h_t : Nat) (h_p1 : Nat) (B_t : Nat → Nat) (B_t_best : Nat → Nat) (B_p1 : Nat → Nat) (t_named : Int32) (t_best_n : Int32) (t_best_cells : Nat → Int32) (t_names : Nat → Int32) (t_things : Nat → Int32) (p1_n : Int32) (p1_cells : Nat → Int32) : va_W := [(h_t, .inr (4, [.ref (B_t 0), .ref (B_t 1), .ref (B_t 2), .ref (B_t 3), .ref (B_t 4), .int t_named])), ((B_t 0), .inr (6, [.ref (B_t_best 0), .int t_best_n])), ((B_t_best 0), .inl (Y 0, 64, .inl t_best_cells)), ((B_t 2), .inl (Y 0, 8, .inl t_names)), ((B_t 1), .inl (Y 0, 8, .inl t_things)), (h_p1, .inr (6, [.ref (B_p1 0), .int p1_n])), ((B_p1 0), .inl (Y 0, 64, .inl p1_cells))]

set_option maxHeartbeats 4000000 in
set_option maxRecDepth 100000 in
theorem wk_X4_makeBest {p : Program} {l : Launch} {e : Env} {R : Room} {s : State} {m : MethodId} {args : Array Value} {below : List Frame} {meth : Method} {c : Code} {Q : State → Prop} {G : va_G} {Y : Nat → ClassId} {tF : Nat} {A : Nat → Prop} (h_t : Nat) (h_p1 : Nat) (B_t : Nat → Nat) (B_t_best : Nat → Nat) (B_p1 : Nat → Nat) (t_named : Int32) (t_best_n : Int32) (t_best_cells : Nat → Int32) (t_names : Nat → Int32) (t_things : Nat → Int32) (p1_n : Int32) (p1_cells : Nat → Int32) {K : (Nat → Int32) → Prop} (hx : p.tables.exec = Jvm.exec) (hb : c.code = cX4_makeBest) (hml : c.maxLocals = 4) (hown : s.vm.findClass RX4 = some m.cls) (hts : ∀ w ∈ wsX4_makeBest, w.before args s = true) (hK : va_K G vwCl (tyL Y) s) (hE : Ev A tF s) (hA : ∀ q, s.heap.size ≤ q → A q) (hRf : 1 ≤ R.frames) (hRl : 23 ≤ R.locals) (hret : ∀ (t_best_cells : Nat → Int32) (H : Heap) (locs : List Loc) (ls : Array Slot) (pc : Nat), va_P G vwCl (w_X4_makeBest Y h_t h_p1 B_t B_t_best B_p1 t_named t_best_n t_best_cells t_names t_things p1_n p1_cells) H → va_D A (w_X4_makeBest Y h_t h_p1 B_t B_t_best B_p1 t_named t_best_n t_best_cells t_names t_things p1_n p1_cells) → va_S A s.heap H locs → K t_best_cells → decode cX4_makeBest pc = .ok (.return_, 1) → W p l e R s m args below meth c H locs 0 0 Q (F0 m pc ls [])) (hP : va_P G vwCl (w_X4_makeBest Y h_t h_p1 B_t B_t_best B_p1 t_named t_best_n t_best_cells t_names t_things p1_n p1_cells) s.heap) (hD : va_D A (w_X4_makeBest Y h_t h_p1 B_t B_t_best B_p1 t_named t_best_n t_best_cells t_names t_things p1_n p1_cells)) (h : pX4_makeBest t_best_cells t_names t_things p1_n p1_cells K) : W p l e R s m args below meth c s.heap [] 0 0 Q (entryFrame m ([.ref h_t, .ref h_p1] : List Value).toArray 4) := by
  have inX4 : ∀ w ∈ u_ws RX4 TX4 6, w ∈ wsX4_makeBest := by decide +kernel
  have inX7 : ∀ w ∈ u_ws RX7 TX7 2, w ∈ wsX4_makeBest := by decide +kernel
  have hf14 := hts (.fieldLink RX4 14 "RackBench$Namer" "best" "LRackBench$Table;") (by decide +kernel)
  have hf20 := hts (.fieldLink RX4 20 "RackBench$Namer" "things" "[I") (by decide +kernel)
  have hf24 := hts (.fieldLink RX4 24 "RackBench$Namer" "names" "[I") (by decide +kernel)
  have hl := lv_entry ([.ref h_t, .ref h_p1]) (n := 4) (Nat.le_of_ble_eq_true rfl)
  rw [lg_entry_eq]
  generalize (lg_sl ([.ref h_t, .ref h_p1]) ++ List.replicate (4 - (lg_sl ([.ref h_t, .ref h_p1])).length) Slot.unset).toArray = ls at hl ⊢
  have hl : lv_has ls 4 [(0, .ref h_t), (1, .ref h_p1)] := hl
  generalize hH0 : s.heap = H at hP ⊢
  have hS : va_S A s.heap H [] := by rw [← hH0]; exact va_S.rf
  clear hH0
  generalize ([] : List Loc) = locs at hS ⊢
  refine lv_iconst (v := 0) hx hb dX4_makeBest_0 (by decide) ?_
  refine lv_istore_n (lv' := [(2, .int (0 : Int32)), (0, .ref h_t), (1, .ref h_p1)]) hx hb dX4_makeBest_1 rfl hl (by decide) rfl (fun ls hl => ?_)
  obtain ⟨I2, m2, hI2, hB2⟩ := h
  have L2 : ∀  (I2 : Int32 → (Nat → Int32) → Prop) (m2 : Int32 → (Nat → Int32) → Nat), (∀ (x2 : Int32) (t_best_cells : Nat → Int32), I2 x2 t_best_cells → pX4_makeBest_2 t_names t_things p1_n p1_cells K x2 t_best_cells (fun x2' t_best_cells' => I2 x2' t_best_cells' ∧ m2 x2' t_best_cells' < m2 x2 t_best_cells)) → ∀ (n : Nat) (x2 : Int32) (t_best_cells : Nat → Int32) (H : Heap) (locs : List Loc) (ls : Array Slot), I2 x2 t_best_cells → m2 x2 t_best_cells < n → va_P G vwCl (w_X4_makeBest Y h_t h_p1 B_t B_t_best B_p1 t_named t_best_n t_best_cells t_names t_things p1_n p1_cells) H → va_D A (w_X4_makeBest Y h_t h_p1 B_t B_t_best B_p1 t_named t_best_n t_best_cells t_names t_things p1_n p1_cells) → va_S A s.heap H locs → lv_has ls 4 [(0, .ref h_t), (1, .ref h_p1), (2, .int x2)] → W p l e R s m args below meth c H locs 0 0 Q (F0 m 2 ls []) := by
    intro  I2 m2 hB2 n
    induction n with
    | zero => intro x2 t_best_cells H locs ls _ hm; exact absurd hm (Nat.not_lt_zero _)
    | succ n ih =>
      intro x2 t_best_cells H locs ls hI hm hP hD hS hl
      obtain ⟨R2, h, rec2⟩ : ∃ R2 : Int32 → (Nat → Int32) → Prop, pX4_makeBest_2 t_names t_things p1_n p1_cells K x2 t_best_cells R2 ∧ ∀ (x2 : Int32) (t_best_cells : Nat → Int32) (H : Heap) (locs : List Loc) (ls : Array Slot), R2 x2 t_best_cells → va_P G vwCl (w_X4_makeBest Y h_t h_p1 B_t B_t_best B_p1 t_named t_best_n t_best_cells t_names t_things p1_n p1_cells) H → va_D A (w_X4_makeBest Y h_t h_p1 B_t B_t_best B_p1 t_named t_best_n t_best_cells t_names t_things p1_n p1_cells) → va_S A s.heap H locs → lv_has ls 4 [(0, .ref h_t), (1, .ref h_p1), (2, .int x2)] → W p l e R s m args below meth c H locs 0 0 Q (F0 m 2 ls []) := ⟨_, hB2 x2 t_best_cells hI, fun x2 t_best_cells H locs ls hh hP hD hS hl => ih x2 t_best_cells H locs ls hh.1 (Nat.lt_of_lt_of_le hh.2 (Nat.le_of_lt_succ hm)) hP hD hS hl⟩
      refine lv_iload_n hx hb dX4_makeBest_2 rfl (lv_at hl 2 rfl) ?_
      refine lv_aload_n hx hb dX4_makeBest_3 rfl (lv_at hl 1 rfl) ?_
      refine va_getN (D := G) (ci := 6) (v := .int p1_n) (C := RX7) (T := TX7) (N := 2) hx hb hts inX7 hown hK hP 5 rfl rfl 1 (by decide) (hE.nest args 10 _ rfl) (fun _ h9 => h9) rfl dX4_makeBest_4 ?_
      obtain ⟨ht, hf⟩ := h
      refine lv_icmp_ge (tgt := 62) hx hb dX4_makeBest_7 (by decide) (fun c9 => ?_) (fun c9 => ?_)
      · have h := ht c9
        exact hret t_best_cells H locs ls _ hP hD hS h dX4_makeBest_62
      · have h := hf c9
        refine lv_iconst (v := 0) hx hb dX4_makeBest_10 (by decide) ?_
        refine lv_istore_n (lv' := [(3, .int (0 : Int32)), (0, .ref h_t), (1, .ref h_p1), (2, .int x2)]) hx hb dX4_makeBest_11 rfl hl (by decide) rfl (fun ls hl => ?_)
        obtain ⟨I12, m12, hI12, hB12⟩ := h
        have L12 : ∀ (x2 : Int32) (I12 : Int32 → (Nat → Int32) → Prop) (m12 : Int32 → (Nat → Int32) → Nat), (∀ (x3 : Int32) (t_best_cells : Nat → Int32), I12 x3 t_best_cells → pX4_makeBest_12 t_names t_things p1_n p1_cells R2 K x2 x3 t_best_cells (fun x3' t_best_cells' => I12 x3' t_best_cells' ∧ m12 x3' t_best_cells' < m12 x3 t_best_cells)) → ∀ (n : Nat) (x3 : Int32) (t_best_cells : Nat → Int32) (H : Heap) (locs : List Loc) (ls : Array Slot), I12 x3 t_best_cells → m12 x3 t_best_cells < n → va_P G vwCl (w_X4_makeBest Y h_t h_p1 B_t B_t_best B_p1 t_named t_best_n t_best_cells t_names t_things p1_n p1_cells) H → va_D A (w_X4_makeBest Y h_t h_p1 B_t B_t_best B_p1 t_named t_best_n t_best_cells t_names t_things p1_n p1_cells) → va_S A s.heap H locs → lv_has ls 4 [(0, .ref h_t), (1, .ref h_p1), (2, .int x2), (3, .int x3)] → W p l e R s m args below meth c H locs 0 0 Q (F0 m 12 ls []) := by
          intro x2 I12 m12 hB12 n
          induction n with
          | zero => intro x3 t_best_cells H locs ls _ hm; exact absurd hm (Nat.not_lt_zero _)
          | succ n ih =>
            intro x3 t_best_cells H locs ls hI hm hP hD hS hl
            obtain ⟨R12, h, rec12⟩ : ∃ R12 : Int32 → (Nat → Int32) → Prop, pX4_makeBest_12 t_names t_things p1_n p1_cells R2 K x2 x3 t_best_cells R12 ∧ ∀ (x3 : Int32) (t_best_cells : Nat → Int32) (H : Heap) (locs : List Loc) (ls : Array Slot), R12 x3 t_best_cells → va_P G vwCl (w_X4_makeBest Y h_t h_p1 B_t B_t_best B_p1 t_named t_best_n t_best_cells t_names t_things p1_n p1_cells) H → va_D A (w_X4_makeBest Y h_t h_p1 B_t B_t_best B_p1 t_named t_best_n t_best_cells t_names t_things p1_n p1_cells) → va_S A s.heap H locs → lv_has ls 4 [(0, .ref h_t), (1, .ref h_p1), (2, .int x2), (3, .int x3)] → W p l e R s m args below meth c H locs 0 0 Q (F0 m 12 ls []) := ⟨_, hB12 x3 t_best_cells hI, fun x3 t_best_cells H locs ls hh hP hD hS hl => ih x3 t_best_cells H locs ls hh.1 (Nat.lt_of_lt_of_le hh.2 (Nat.le_of_lt_succ hm)) hP hD hS hl⟩
            refine lv_iload_n hx hb dX4_makeBest_12 rfl (lv_at hl 3 rfl) ?_
            refine lv_aload_n hx hb dX4_makeBest_13 rfl (lv_at hl 1 rfl) ?_
            refine va_getN (D := G) (ci := 6) (v := .int p1_n) (C := RX7) (T := TX7) (N := 2) hx hb hts inX7 hown hK hP 5 rfl rfl 1 (by decide) (hE.nest args 10 _ rfl) (fun _ h9 => h9) rfl dX4_makeBest_14 ?_
            obtain ⟨ht, hf⟩ := h
            refine lv_icmp_ge (tgt := 56) hx hb dX4_makeBest_17 (by decide) (fun c9 => ?_) (fun c9 => ?_)
            · have h := ht c9
              refine lv_iinc (v := (x2 + 1)) (lv' := [(2, .int (x2 + 1)), (0, .ref h_t), (1, .ref h_p1), (3, .int x3)]) hx hb dX4_makeBest_56 hl (k := 2) rfl rfl (by decide) rfl (fun ls hl => ?_)
              refine lv_goto (tgt := 2) hx hb dX4_makeBest_59 (by decide) ?_
              exact rec2 (x2 + 1) t_best_cells H locs ls h hP hD hS (lv_sub hl [1, 2, 0] rfl)
            · have h := hf c9
              refine lv_aload_n hx hb dX4_makeBest_20 rfl (lv_at hl 0 rfl) ?_
              refine va_get (D := G) (ci := 4) (v := .ref (B_t 0)) (C := RX4) (T := TX4) (N := 6) hx hb hts inX4 hown hK hP 0 rfl rfl 0 (by decide) hf14 (fun _ h9 => h9) rfl dX4_makeBest_21 ?_
              refine lv_iload_n hx hb dX4_makeBest_24 rfl (lv_at hl 2 rfl) ?_
              refine lv_iload_n hx hb dX4_makeBest_25 rfl (lv_at hl 3 rfl) ?_
              refine lv_aload_n hx hb dX4_makeBest_26 rfl (lv_at hl 0 rfl) ?_
              refine va_get (D := G) (ci := 4) (v := .ref (B_t 2)) (C := RX4) (T := TX4) (N := 6) hx hb hts inX4 hown hK hP 0 rfl rfl 2 (by decide) hf24 (fun _ h9 => h9) rfl dX4_makeBest_27 ?_
              refine lv_aload_n hx hb dX4_makeBest_30 rfl (lv_at hl 1 rfl) ?_
              refine lv_aload_n hx hb dX4_makeBest_31 rfl (lv_at hl 0 rfl) ?_
              refine va_get (D := G) (ci := 4) (v := .ref (B_t 1)) (C := RX4) (T := TX4) (N := 6) hx hb hts inX4 hown hK hP 0 rfl rfl 1 (by decide) hf20 (fun _ h9 => h9) rfl dX4_makeBest_32 ?_
              refine lv_iload_n hx hb dX4_makeBest_35 rfl (lv_at hl 2 rfl) ?_
              obtain ⟨hin, h⟩ := h
              refine va_iald hx hb hK hP 4 0 rfl rfl hin dX4_makeBest_36 ?_
              refine lv_aload_n hx hb dX4_makeBest_37 rfl (lv_at hl 0 rfl) ?_
              refine va_get (D := G) (ci := 4) (v := .ref (B_t 1)) (C := RX4) (T := TX4) (N := 6) hx hb hts inX4 hown hK hP 0 rfl rfl 1 (by decide) hf20 (fun _ h9 => h9) rfl dX4_makeBest_38 ?_
              refine lv_iload_n hx hb dX4_makeBest_41 rfl (lv_at hl 3 rfl) ?_
              obtain ⟨hin, h⟩ := h
              refine va_iald hx hb hK hP 4 0 rfl rfl hin dX4_makeBest_42 ?_
              refine mc_iV ⟨hx, hb, hml, hown, hts⟩ hK hE hA hP hD hS (c_X7_turned l G Y tF H.size h_p1 B_p1 p1_n p1_cells (t_things (Int32.toNatClampNeg x2)) (t_things (Int32.toNatClampNeg x3)) h) (cwV 2 hts gX4_makeBest_X7_turned rfl rfl rfl (by decide +kernel) ⟨Nat.le_trans (by decide) hRf, Nat.le_trans (by decide) hRl⟩) (fun u => (w_X4_makeBest Y h_t h_p1 B_t B_t_best B_p1 t_named t_best_n t_best_cells t_names t_things p1_n p1_cells)) [5, 6] [0, 1, 2, 3, 4] [0, 1, 2, 3, 4, 5, 6] rfl rfl rfl rfl (by decide) (fun _ => rfl) rfl 5 6 rfl rfl rfl rfl hl.1 rfl (Nat.le_of_ble_eq_true rfl) dX4_makeBest_43 (fun r43 u H locs h hP hD hS => ?_)
              try dsimp only at h
              have hP : va_P G vwCl (w_X4_makeBest Y h_t h_p1 B_t B_t_best B_p1 t_named t_best_n t_best_cells t_names t_things p1_n p1_cells) H := hP
              have hD : va_D A (w_X4_makeBest Y h_t h_p1 B_t B_t_best B_p1 t_named t_best_n t_best_cells t_names t_things p1_n p1_cells) := hD
              obtain ⟨hin, h⟩ := h
              refine va_iald hx hb hK hP 3 0 rfl rfl hin dX4_makeBest_46 ?_
              refine mc_vV ⟨hx, hb, hml, hown, hts⟩ hK hE hA hP hD hS (c_X7_put l G Y tF H.size (B_t 0) B_t_best t_best_n t_best_cells x2 x3 (t_names (Int32.toNatClampNeg r43)) h) (cwV 3 hts gX4_makeBest_X7_put rfl rfl rfl (by decide +kernel) ⟨Nat.le_trans (by decide) hRf, Nat.le_trans (by decide) hRl⟩) (fun u => (w_X4_makeBest Y h_t h_p1 B_t B_t_best B_p1 t_named t_best_n u t_names t_things p1_n p1_cells)) [1, 2] [0, 3, 4, 5, 6] [0, 5, 6, 1, 2, 3, 4] rfl rfl rfl rfl (by decide) (fun _ => rfl) rfl 1 6 rfl rfl rfl rfl hl.1 rfl (Nat.le_of_ble_eq_true rfl) dX4_makeBest_47 (fun u H locs h hP hD hS => ?_)
              obtain ⟨t_best_cells_47, rfl⟩ : ∃ z, z = u := ⟨_, rfl⟩
              try dsimp only at h
              have hP : va_P G vwCl (w_X4_makeBest Y h_t h_p1 B_t B_t_best B_p1 t_named t_best_n t_best_cells_47 t_names t_things p1_n p1_cells) H := hP
              have hD : va_D A (w_X4_makeBest Y h_t h_p1 B_t B_t_best B_p1 t_named t_best_n t_best_cells_47 t_names t_things p1_n p1_cells) := hD
              refine lv_iinc (v := (x3 + 1)) (lv' := [(3, .int (x3 + 1)), (0, .ref h_t), (1, .ref h_p1), (2, .int x2)]) hx hb dX4_makeBest_50 hl (k := 3) rfl rfl (by decide) rfl (fun ls hl => ?_)
              refine lv_goto (tgt := 12) hx hb dX4_makeBest_53 (by decide) ?_
              exact rec12 (x3 + 1) t_best_cells_47 H locs ls h hP hD hS (lv_sub hl [1, 2, 3, 0] rfl)
        exact L12 x2 I12 m12 hB12 _ (0 : Int32) t_best_cells H locs ls hI12 (Nat.lt_succ_self _) hP hD hS (lv_sub hl [1, 2, 3, 0] rfl)
  exact L2  I2 m2 hB2 _ (0 : Int32) t_best_cells H locs ls hI2 (Nat.lt_succ_self _) hP hD hS (lv_sub hl [1, 2, 0] rfl)

set_option maxHeartbeats 4000000 in
set_option maxRecDepth 100000 in
theorem c_X4_makeBest (l : Launch) (G : va_G) (Y : Nat → ClassId) (tF sz : Nat) (h_t : Nat) (h_p1 : Nat) (B_t : Nat → Nat) (B_t_best : Nat → Nat) (B_p1 : Nat → Nat) (t_named : Int32) (t_best_n : Int32) (t_best_cells : Nat → Int32) (t_names : Nat → Int32) (t_things : Nat → Int32) (p1_n : Int32) (p1_cells : Nat → Int32) {K : (Nat → Int32) → Prop} (h : pX4_makeBest t_best_cells t_names t_things p1_n p1_cells K) : Met l yX4_makeBest wsX4_makeBest ({ frames := 1, cells := 0, slots := 0, locals := 23 }) (PcM G Y tF sz (w_X4_makeBest Y h_t h_p1 B_t B_t_best B_p1 t_named t_best_n t_best_cells t_names t_things p1_n p1_cells) [.ref h_t, .ref h_p1]) (va_Qv (fun u : (Nat → Int32) => K u) (fun u t => BM G Y (va_A (w_X4_makeBest Y h_t h_p1 B_t B_t_best B_p1 t_named t_best_n t_best_cells t_names t_things p1_n p1_cells) sz) (w_X4_makeBest Y h_t h_p1 B_t B_t_best B_p1 t_named t_best_n u t_names t_things p1_n p1_cells) t) (va_A (w_X4_makeBest Y h_t h_p1 B_t B_t_best B_p1 t_named t_best_n t_best_cells t_names t_things p1_n p1_cells) sz)) 0 0 (va_A (w_X4_makeBest Y h_t h_p1 B_t B_t_best B_p1 t_named t_best_n t_best_cells t_names t_things p1_n p1_cells) sz) := by
  refine Met.ofW (cc := cX4_makeBest) (maxL := 4) (ret := none) (by decide +kernel) rfl ?_
  intro p e s m args below meth c s₁ B hml hv
  obtain ⟨rfl, hsz, hP, hK, hD0, hE⟩ := hv
  have hts := atoms_spec (ws := wsX4_makeBest) B.pre
  have hown : s.vm.findClass RX4 = some m.cls := findClass_of_methodNamed B.named
  have hlocks := B.notSynchronized
  subst hsz
  have hD := hD0.self (sz := s.heap.size)
  exact wk_X4_makeBest h_t h_p1 B_t B_t_best B_p1 t_named t_best_n t_best_cells t_names t_things p1_n p1_cells B.exec B.bytes hml hown hts hK hE (fun q h => Or.inr h) (Nat.le_refl _) (Nat.le_refl _) (fun t_best_cells H locs ls pc hP hD hS hk hd => W.vret B.exec B.bytes B.returns (fun t ht hW => ⟨⟨t_best_cells, rfl, hk, by rw [ht]; exact hP, va_K.moved hW.alike hK, hD⟩, hS.F ht⟩) hS.2.2 hd) hP hD h

abbrev w_X4_give (Y : Nat → ClassId) (h_t : Nat) (B_t : Nat → Nat) (t_named : Int32) (t_names : Nat → Int32) (t_things : Nat → Int32) : va_W := [(h_t, .inr (4, [.ref (B_t 0), .ref (B_t 1), .ref (B_t 2), .ref (B_t 3), .ref (B_t 4), .int t_named])), ((B_t 2), .inl (Y 0, 8, .inl t_names)), ((B_t 1), .inl (Y 0, 8, .inl t_things))]

set_option maxHeartbeats 4000000 in
set_option maxRecDepth 100000 in
theorem wk_X4_give {p : Program} {l : Launch} {e : Env} {R : Room} {s : State} {m : MethodId} {args : Array Value} {below : List Frame} {meth : Method} {c : Code} {Q : State → Prop} {G : va_G} {Y : Nat → ClassId} {tF : Nat} {A : Nat → Prop} (h_t : Nat) (B_t : Nat → Nat) (t_named : Int32) (t_names : Nat → Int32) (t_things : Nat → Int32) (x1 : Int32) {K : Int32 → (Nat → Int32) → (Nat → Int32) → Prop} (hx : p.tables.exec = Jvm.exec) (hb : c.code = cX4_give) (hml : c.maxLocals = 2) (hown : s.vm.findClass RX4 = some m.cls) (hts : ∀ w ∈ wsX4_give, w.before args s = true) (hK : va_K G vwCl (tyL Y) s) (hE : Ev A tF s) (hA : ∀ q, s.heap.size ≤ q → A q) (hRf : 0 ≤ R.frames) (hRl : 0 ≤ R.locals) (hret : ∀ (t_named : Int32) (t_names : Nat → Int32) (t_things : Nat → Int32) (H : Heap) (locs : List Loc) (ls : Array Slot) (pc : Nat), va_P G vwCl (w_X4_give Y h_t B_t t_named t_names t_things) H → va_D A (w_X4_give Y h_t B_t t_named t_names t_things) → va_S A s.heap H locs → K t_named t_names t_things → decode cX4_give pc = .ok (.return_, 1) → W p l e R s m args below meth c H locs 0 0 Q (F0 m pc ls [])) (hP : va_P G vwCl (w_X4_give Y h_t B_t t_named t_names t_things) s.heap) (hD : va_D A (w_X4_give Y h_t B_t t_named t_names t_things)) (h : pX4_give t_named t_names t_things x1 K) : W p l e R s m args below meth c s.heap [] 0 0 Q (entryFrame m ([.ref h_t, .int x1] : List Value).toArray 2) := by
  have inX4 : ∀ w ∈ u_ws RX4 TX4 6, w ∈ wsX4_give := by decide +kernel
  have hf20 := hts (.fieldLink RX4 20 "RackBench$Namer" "things" "[I") (by decide +kernel)
  have hf24 := hts (.fieldLink RX4 24 "RackBench$Namer" "names" "[I") (by decide +kernel)
  have hf33 := hts (.fieldLink RX4 33 "RackBench$Namer" "named" "I") (by decide +kernel)
  have hl := lv_entry ([.ref h_t, .int x1]) (n := 2) (Nat.le_of_ble_eq_true rfl)
  rw [lg_entry_eq]
  generalize (lg_sl ([.ref h_t, .int x1]) ++ List.replicate (2 - (lg_sl ([.ref h_t, .int x1])).length) Slot.unset).toArray = ls at hl ⊢
  have hl : lv_has ls 2 [(0, .ref h_t), (1, .int x1)] := hl
  generalize hH0 : s.heap = H at hP ⊢
  have hS : va_S A s.heap H [] := by rw [← hH0]; exact va_S.rf
  clear hH0
  generalize ([] : List Loc) = locs at hS ⊢
  refine lv_aload_n hx hb dX4_give_0 rfl (lv_at hl 0 rfl) ?_
  refine va_get (D := G) (ci := 4) (v := .ref (B_t 1)) (C := RX4) (T := TX4) (N := 6) hx hb hts inX4 hown hK hP 0 rfl rfl 1 (by decide) hf20 (fun _ h9 => h9) rfl dX4_give_1 ?_
  refine lv_aload_n hx hb dX4_give_4 rfl (lv_at hl 0 rfl) ?_
  refine va_get (D := G) (ci := 4) (v := .int t_named) (C := RX4) (T := TX4) (N := 6) hx hb hts inX4 hown hK hP 0 rfl rfl 5 (by decide) hf33 (fun _ h9 => h9) rfl dX4_give_5 ?_
  refine lv_iload_n hx hb dX4_give_8 rfl (lv_at hl 1 rfl) ?_
  obtain ⟨hin, h⟩ := h
  refine va_iast hx hb hK hP hD hS 2 0 rfl rfl hin dX4_give_9 (fun H locs hP hD hS => ?_)
  have hP : va_P G vwCl (w_X4_give Y h_t B_t t_named t_names (upd t_things (Int32.toNatClampNeg t_named) x1)) H := hP
  have hD : va_D A (w_X4_give Y h_t B_t t_named t_names (upd t_things (Int32.toNatClampNeg t_named) x1)) := hD
  refine lv_aload_n hx hb dX4_give_10 rfl (lv_at hl 0 rfl) ?_
  refine va_get (D := G) (ci := 4) (v := .ref (B_t 2)) (C := RX4) (T := TX4) (N := 6) hx hb hts inX4 hown hK hP 0 rfl rfl 2 (by decide) hf24 (fun _ h9 => h9) rfl dX4_give_11 ?_
  refine lv_iload_n hx hb dX4_give_14 rfl (lv_at hl 1 rfl) ?_
  refine lv_aload_n hx hb dX4_give_15 rfl (lv_at hl 0 rfl) ?_
  refine va_get (D := G) (ci := 4) (v := .int t_named) (C := RX4) (T := TX4) (N := 6) hx hb hts inX4 hown hK hP 0 rfl rfl 5 (by decide) hf33 (fun _ h9 => h9) rfl dX4_give_16 ?_
  obtain ⟨hin, h⟩ := h
  refine va_iast hx hb hK hP hD hS 1 0 rfl rfl hin dX4_give_19 (fun H locs hP hD hS => ?_)
  have hP : va_P G vwCl (w_X4_give Y h_t B_t t_named (upd t_names (Int32.toNatClampNeg x1) t_named) (upd t_things (Int32.toNatClampNeg t_named) x1)) H := hP
  have hD : va_D A (w_X4_give Y h_t B_t t_named (upd t_names (Int32.toNatClampNeg x1) t_named) (upd t_things (Int32.toNatClampNeg t_named) x1)) := hD
  refine lv_aload_n hx hb dX4_give_20 rfl (lv_at hl 0 rfl) ?_
  refine lv_dup hx hb dX4_give_21 rfl ?_
  refine va_get (D := G) (ci := 4) (v := .int t_named) (C := RX4) (T := TX4) (N := 6) hx hb hts inX4 hown hK hP 0 rfl rfl 5 (by decide) hf33 (fun _ h9 => h9) rfl dX4_give_22 ?_
  refine lv_iconst (v := 1) hx hb dX4_give_25 (by decide) ?_
  refine lv_iadd hx hb dX4_give_26 ?_
  refine va_put (D := G) (ci := 4) (v := .int (t_named + (1 : Int32))) (ty := .int) (C := RX4) (T := TX4) (N := 6) hx hb hts inX4 tyX4 tyX4_ok nmX4 hown hK hP hD hS 0 rfl rfl 5 (by decide) hf33 (fun _ h9 => h9) rfl (by decide +kernel) rfl rfl (Nat.le_of_ble_eq_true rfl) dX4_give_27 (fun H locs hP hD hS => ?_)
  have hP : va_P G vwCl (w_X4_give Y h_t B_t (t_named + (1 : Int32)) (upd t_names (Int32.toNatClampNeg x1) t_named) (upd t_things (Int32.toNatClampNeg t_named) x1)) H := hP
  have hD : va_D A (w_X4_give Y h_t B_t (t_named + (1 : Int32)) (upd t_names (Int32.toNatClampNeg x1) t_named) (upd t_things (Int32.toNatClampNeg t_named) x1)) := hD
  exact hret (t_named + (1 : Int32)) (upd t_names (Int32.toNatClampNeg x1) t_named) (upd t_things (Int32.toNatClampNeg t_named) x1) H locs ls _ hP hD hS h dX4_give_30

set_option maxHeartbeats 4000000 in
set_option maxRecDepth 100000 in
theorem c_X4_give (l : Launch) (G : va_G) (Y : Nat → ClassId) (tF sz : Nat) (h_t : Nat) (B_t : Nat → Nat) (t_named : Int32) (t_names : Nat → Int32) (t_things : Nat → Int32) (x1 : Int32) {K : Int32 → (Nat → Int32) → (Nat → Int32) → Prop} (h : pX4_give t_named t_names t_things x1 K) : Met l yX4_give wsX4_give ({ frames := 0, cells := 0, slots := 0, locals := 0 }) (PcM G Y tF sz (w_X4_give Y h_t B_t t_named t_names t_things) [.ref h_t, .int x1]) (va_Qv (fun u : Int32 × (Nat → Int32) × (Nat → Int32) => K u.1 u.2.1 u.2.2) (fun u t => BM G Y (va_A (w_X4_give Y h_t B_t t_named t_names t_things) sz) (w_X4_give Y h_t B_t u.1 u.2.1 u.2.2) t) (va_A (w_X4_give Y h_t B_t t_named t_names t_things) sz)) 0 0 (va_A (w_X4_give Y h_t B_t t_named t_names t_things) sz) := by
  refine Met.ofW (cc := cX4_give) (maxL := 2) (ret := none) (by decide +kernel) rfl ?_
  intro p e s m args below meth c s₁ B hml hv
  obtain ⟨rfl, hsz, hP, hK, hD0, hE⟩ := hv
  have hts := atoms_spec (ws := wsX4_give) B.pre
  have hown : s.vm.findClass RX4 = some m.cls := findClass_of_methodNamed B.named
  have hlocks := B.notSynchronized
  subst hsz
  have hD := hD0.self (sz := s.heap.size)
  exact wk_X4_give h_t B_t t_named t_names t_things x1 B.exec B.bytes hml hown hts hK hE (fun q h => Or.inr h) (Nat.le_refl _) (Nat.le_refl _) (fun t_named t_names t_things H locs ls pc hP hD hS hk hd => W.vret B.exec B.bytes B.returns (fun t ht hW => ⟨⟨(t_named, t_names, t_things), rfl, hk, by rw [ht]; exact hP, va_K.moved hW.alike hK, hD⟩, hS.F ht⟩) hS.2.2 hd) hP hD h

abbrev w_X4_isAboveBest (Y : Nat → ClassId) (h_t : Nat) (B_t : Nat → Nat) (B_t_best : Nat → Nat) (t_named : Int32) (t_best_n : Int32) (t_best_cells : Nat → Int32) (t_firstRow : Nat → Int32) : va_W := [(h_t, .inr (4, [.ref (B_t 0), .ref (B_t 1), .ref (B_t 2), .ref (B_t 3), .ref (B_t 4), .int t_named])), ((B_t 0), .inr (6, [.ref (B_t_best 0), .int t_best_n])), ((B_t_best 0), .inl (Y 0, 64, .inl t_best_cells)), ((B_t 4), .inl (Y 0, 8, .inl t_firstRow))]

set_option maxHeartbeats 4000000 in
set_option maxRecDepth 100000 in
theorem wk_X4_isAboveBest {p : Program} {l : Launch} {e : Env} {R : Room} {s : State} {m : MethodId} {args : Array Value} {below : List Frame} {meth : Method} {c : Code} {Q : State → Prop} {G : va_G} {Y : Nat → ClassId} {tF : Nat} {A : Nat → Prop} (h_t : Nat) (B_t : Nat → Nat) (B_t_best : Nat → Nat) (t_named : Int32) (t_best_n : Int32) (t_best_cells : Nat → Int32) (t_firstRow : Nat → Int32) (x1 : Int32) {K : Int32 → Prop} (hx : p.tables.exec = Jvm.exec) (hb : c.code = cX4_isAboveBest) (hml : c.maxLocals = 3) (hown : s.vm.findClass RX4 = some m.cls) (hts : ∀ w ∈ wsX4_isAboveBest, w.before args s = true) (hK : va_K G vwCl (tyL Y) s) (hE : Ev A tF s) (hA : ∀ q, s.heap.size ≤ q → A q) (hRf : 1 ≤ R.frames) (hRl : 22 ≤ R.locals) (hret : ∀ (r : Int32)  (H : Heap) (locs : List Loc) (ls : Array Slot) (pc : Nat), va_P G vwCl (w_X4_isAboveBest Y h_t B_t B_t_best t_named t_best_n t_best_cells t_firstRow) H → va_D A (w_X4_isAboveBest Y h_t B_t B_t_best t_named t_best_n t_best_cells t_firstRow) → va_S A s.heap H locs → zb r → K r → decode cX4_isAboveBest pc = .ok (.ireturn, 1) → W p l e R s m args below meth c H locs 0 0 Q (F0 m pc ls [.int r])) (hP : va_P G vwCl (w_X4_isAboveBest Y h_t B_t B_t_best t_named t_best_n t_best_cells t_firstRow) s.heap) (hD : va_D A (w_X4_isAboveBest Y h_t B_t B_t_best t_named t_best_n t_best_cells t_firstRow)) (h : pX4_isAboveBest t_best_cells t_firstRow x1 K) : W p l e R s m args below meth c s.heap [] 0 0 Q (entryFrame m ([.ref h_t, .int x1] : List Value).toArray 3) := by
  have inX4 : ∀ w ∈ u_ws RX4 TX4 6, w ∈ wsX4_isAboveBest := by decide +kernel
  have hf14 := hts (.fieldLink RX4 14 "RackBench$Namer" "best" "LRackBench$Table;") (by decide +kernel)
  have hf30 := hts (.fieldLink RX4 30 "RackBench$Namer" "firstRow" "[I") (by decide +kernel)
  have hl := lv_entry ([.ref h_t, .int x1]) (n := 3) (Nat.le_of_ble_eq_true rfl)
  rw [lg_entry_eq]
  generalize (lg_sl ([.ref h_t, .int x1]) ++ List.replicate (3 - (lg_sl ([.ref h_t, .int x1])).length) Slot.unset).toArray = ls at hl ⊢
  have hl : lv_has ls 3 [(0, .ref h_t), (1, .int x1)] := hl
  generalize hH0 : s.heap = H at hP ⊢
  have hS : va_S A s.heap H [] := by rw [← hH0]; exact va_S.rf
  clear hH0
  generalize ([] : List Loc) = locs at hS ⊢
  refine lv_iconst (v := 0) hx hb dX4_isAboveBest_0 (by decide) ?_
  refine lv_istore_n (lv' := [(2, .int (0 : Int32)), (0, .ref h_t), (1, .int x1)]) hx hb dX4_isAboveBest_1 rfl hl (by decide) rfl (fun ls hl => ?_)
  obtain ⟨I2, m2, hI2, hB2⟩ := h
  have L2 : ∀ (x1 : Int32) (I2 : Int32 → Prop) (m2 : Int32 → Nat), (∀ (x2 : Int32), I2 x2 → pX4_isAboveBest_2 t_best_cells t_firstRow K x1 x2 (fun x2' => I2 x2' ∧ m2 x2' < m2 x2)) → ∀ (n : Nat) (x2 : Int32) (H : Heap) (locs : List Loc) (ls : Array Slot), I2 x2 → m2 x2 < n → va_P G vwCl (w_X4_isAboveBest Y h_t B_t B_t_best t_named t_best_n t_best_cells t_firstRow) H → va_D A (w_X4_isAboveBest Y h_t B_t B_t_best t_named t_best_n t_best_cells t_firstRow) → va_S A s.heap H locs → lv_has ls 3 [(0, .ref h_t), (1, .int x1), (2, .int x2)] → W p l e R s m args below meth c H locs 0 0 Q (F0 m 2 ls []) := by
    intro x1 I2 m2 hB2 n
    induction n with
    | zero => intro x2 H locs ls _ hm; exact absurd hm (Nat.not_lt_zero _)
    | succ n ih =>
      intro x2 H locs ls hI hm hP hD hS hl
      obtain ⟨R2, h, rec2⟩ : ∃ R2 : Int32 → Prop, pX4_isAboveBest_2 t_best_cells t_firstRow K x1 x2 R2 ∧ ∀ (x2 : Int32) (H : Heap) (locs : List Loc) (ls : Array Slot), R2 x2 → va_P G vwCl (w_X4_isAboveBest Y h_t B_t B_t_best t_named t_best_n t_best_cells t_firstRow) H → va_D A (w_X4_isAboveBest Y h_t B_t B_t_best t_named t_best_n t_best_cells t_firstRow) → va_S A s.heap H locs → lv_has ls 3 [(0, .ref h_t), (1, .int x1), (2, .int x2)] → W p l e R s m args below meth c H locs 0 0 Q (F0 m 2 ls []) := ⟨_, hB2 x2 hI, fun x2 H locs ls hh hP hD hS hl => ih x2 H locs ls hh.1 (Nat.lt_of_lt_of_le hh.2 (Nat.le_of_lt_succ hm)) hP hD hS hl⟩
      refine lv_iload_n hx hb dX4_isAboveBest_2 rfl (lv_at hl 2 rfl) ?_
      refine lv_iload_n hx hb dX4_isAboveBest_3 rfl (lv_at hl 1 rfl) ?_
      obtain ⟨ht, hf⟩ := h
      refine lv_icmp_gt (tgt := 55) hx hb dX4_isAboveBest_4 (by decide) (fun c9 => ?_) (fun c9 => ?_)
      · have h := ht c9
        refine lv_iconst (v := 0) hx hb dX4_isAboveBest_55 (by decide) ?_
        obtain ⟨hz, h⟩ := h
        exact hret (0 : Int32)  H locs ls _ hP hD hS hz h dX4_isAboveBest_56
      · have h := hf c9
        refine lv_aload_n hx hb dX4_isAboveBest_7 rfl (lv_at hl 0 rfl) ?_
        refine va_get (D := G) (ci := 4) (v := .ref (B_t 4)) (C := RX4) (T := TX4) (N := 6) hx hb hts inX4 hown hK hP 0 rfl rfl 4 (by decide) hf30 (fun _ h9 => h9) rfl dX4_isAboveBest_8 ?_
        refine lv_iload_n hx hb dX4_isAboveBest_11 rfl (lv_at hl 2 rfl) ?_
        obtain ⟨hin, h⟩ := h
        refine va_iald hx hb hK hP 3 0 rfl rfl hin dX4_isAboveBest_12 ?_
        refine lv_aload_n hx hb dX4_isAboveBest_13 rfl (lv_at hl 0 rfl) ?_
        refine va_get (D := G) (ci := 4) (v := .ref (B_t 0)) (C := RX4) (T := TX4) (N := 6) hx hb hts inX4 hown hK hP 0 rfl rfl 0 (by decide) hf14 (fun _ h9 => h9) rfl dX4_isAboveBest_14 ?_
        refine lv_iconst (v := 0) hx hb dX4_isAboveBest_17 (by decide) ?_
        refine lv_iload_n hx hb dX4_isAboveBest_18 rfl (lv_at hl 2 rfl) ?_
        refine mc_iV ⟨hx, hb, hml, hown, hts⟩ hK hE hA hP hD hS (c_X7_turned l G Y tF H.size (B_t 0) B_t_best t_best_n t_best_cells (0 : Int32) x2 h) (cwV 2 hts gX4_isAboveBest_X7_turned rfl rfl rfl (by decide +kernel) ⟨Nat.le_trans (by decide) hRf, Nat.le_trans (by decide) hRl⟩) (fun u => (w_X4_isAboveBest Y h_t B_t B_t_best t_named t_best_n t_best_cells t_firstRow)) [1, 2] [0, 3] [0, 2, 3, 1] rfl rfl rfl rfl (by decide) (fun _ => rfl) rfl 1 6 rfl rfl rfl rfl hl.1 rfl (Nat.le_of_ble_eq_true rfl) dX4_isAboveBest_19 (fun r19 u H locs h hP hD hS => ?_)
        try dsimp only at h
        have hP : va_P G vwCl (w_X4_isAboveBest Y h_t B_t B_t_best t_named t_best_n t_best_cells t_firstRow) H := hP
        have hD : va_D A (w_X4_isAboveBest Y h_t B_t B_t_best t_named t_best_n t_best_cells t_firstRow) := hD
        obtain ⟨ht, hf⟩ := h
        refine lv_icmp_eq (tgt := 49) hx hb dX4_isAboveBest_22 (by decide) (fun c9 => ?_) (fun c9 => ?_)
        · have h := ht c9
          refine lv_iinc (v := (x2 + 1)) (lv' := [(2, .int (x2 + 1)), (0, .ref h_t), (1, .int x1)]) hx hb dX4_isAboveBest_49 hl (k := 2) rfl rfl (by decide) rfl (fun ls hl => ?_)
          refine lv_goto (tgt := 2) hx hb dX4_isAboveBest_52 (by decide) ?_
          exact rec2 (x2 + 1) H locs ls h hP hD hS (lv_sub hl [1, 2, 0] rfl)
        · have h := hf c9
          refine lv_aload_n hx hb dX4_isAboveBest_25 rfl (lv_at hl 0 rfl) ?_
          refine va_get (D := G) (ci := 4) (v := .ref (B_t 4)) (C := RX4) (T := TX4) (N := 6) hx hb hts inX4 hown hK hP 0 rfl rfl 4 (by decide) hf30 (fun _ h9 => h9) rfl dX4_isAboveBest_26 ?_
          refine lv_iload_n hx hb dX4_isAboveBest_29 rfl (lv_at hl 2 rfl) ?_
          obtain ⟨hin, h⟩ := h
          refine va_iald hx hb hK hP 3 0 rfl rfl hin dX4_isAboveBest_30 ?_
          refine lv_aload_n hx hb dX4_isAboveBest_31 rfl (lv_at hl 0 rfl) ?_
          refine va_get (D := G) (ci := 4) (v := .ref (B_t 0)) (C := RX4) (T := TX4) (N := 6) hx hb hts inX4 hown hK hP 0 rfl rfl 0 (by decide) hf14 (fun _ h9 => h9) rfl dX4_isAboveBest_32 ?_
          refine lv_iconst (v := 0) hx hb dX4_isAboveBest_35 (by decide) ?_
          refine lv_iload_n hx hb dX4_isAboveBest_36 rfl (lv_at hl 2 rfl) ?_
          refine mc_iV ⟨hx, hb, hml, hown, hts⟩ hK hE hA hP hD hS (c_X7_turned l G Y tF H.size (B_t 0) B_t_best t_best_n t_best_cells (0 : Int32) x2 h) (cwV 2 hts gX4_isAboveBest_X7_turned rfl rfl rfl (by decide +kernel) ⟨Nat.le_trans (by decide) hRf, Nat.le_trans (by decide) hRl⟩) (fun u => (w_X4_isAboveBest Y h_t B_t B_t_best t_named t_best_n t_best_cells t_firstRow)) [1, 2] [0, 3] [0, 2, 3, 1] rfl rfl rfl rfl (by decide) (fun _ => rfl) rfl 1 6 rfl rfl rfl rfl hl.1 rfl (Nat.le_of_ble_eq_true rfl) dX4_isAboveBest_37 (fun r37 u H locs h hP hD hS => ?_)
          try dsimp only at h
          have hP : va_P G vwCl (w_X4_isAboveBest Y h_t B_t B_t_best t_named t_best_n t_best_cells t_firstRow) H := hP
          have hD : va_D A (w_X4_isAboveBest Y h_t B_t B_t_best t_named t_best_n t_best_cells t_firstRow) := hD
          obtain ⟨ht, hf⟩ := h
          refine lv_icmp_le (tgt := 47) hx hb dX4_isAboveBest_40 (by decide) (fun c9 => ?_) (fun c9 => ?_)
          · have h := ht c9
            refine lv_iconst (v := 0) hx hb dX4_isAboveBest_47 (by decide) ?_
            obtain ⟨hz, h⟩ := h
            exact hret (0 : Int32)  H locs ls _ hP hD hS hz h dX4_isAboveBest_48
          · have h := hf c9
            refine lv_iconst (v := 1) hx hb dX4_isAboveBest_43 (by decide) ?_
            refine lv_goto (tgt := 48) hx hb dX4_isAboveBest_44 (by decide) ?_
            obtain ⟨hz, h⟩ := h
            exact hret (1 : Int32)  H locs ls _ hP hD hS hz h dX4_isAboveBest_48
  exact L2 x1 I2 m2 hB2 _ (0 : Int32) H locs ls hI2 (Nat.lt_succ_self _) hP hD hS (lv_sub hl [1, 2, 0] rfl)

set_option maxHeartbeats 4000000 in
set_option maxRecDepth 100000 in
theorem c_X4_isAboveBest (l : Launch) (G : va_G) (Y : Nat → ClassId) (tF sz : Nat) (h_t : Nat) (B_t : Nat → Nat) (B_t_best : Nat → Nat) (t_named : Int32) (t_best_n : Int32) (t_best_cells : Nat → Int32) (t_firstRow : Nat → Int32) (x1 : Int32) {K : Int32 → Prop} (h : pX4_isAboveBest t_best_cells t_firstRow x1 K) : Met l yX4_isAboveBest wsX4_isAboveBest ({ frames := 1, cells := 0, slots := 0, locals := 22 }) (PcM G Y tF sz (w_X4_isAboveBest Y h_t B_t B_t_best t_named t_best_n t_best_cells t_firstRow) [.ref h_t, .int x1]) (va_Qi (fun (r : Int32) (u : Unit) => K r ) (fun u t => BM G Y (va_A (w_X4_isAboveBest Y h_t B_t B_t_best t_named t_best_n t_best_cells t_firstRow) sz) (w_X4_isAboveBest Y h_t B_t B_t_best t_named t_best_n t_best_cells t_firstRow) t) (va_A (w_X4_isAboveBest Y h_t B_t B_t_best t_named t_best_n t_best_cells t_firstRow) sz)) 0 0 (va_A (w_X4_isAboveBest Y h_t B_t B_t_best t_named t_best_n t_best_cells t_firstRow) sz) := by
  refine Met.ofW (cc := cX4_isAboveBest) (maxL := 3) (ret := (some .boolean)) (by decide +kernel) rfl ?_
  intro p e s m args below meth c s₁ B hml hv
  obtain ⟨rfl, hsz, hP, hK, hD0, hE⟩ := hv
  have hts := atoms_spec (ws := wsX4_isAboveBest) B.pre
  have hown : s.vm.findClass RX4 = some m.cls := findClass_of_methodNamed B.named
  have hlocks := B.notSynchronized
  subst hsz
  have hD := hD0.self (sz := s.heap.size)
  exact wk_X4_isAboveBest h_t B_t B_t_best t_named t_best_n t_best_cells t_firstRow x1 B.exec B.bytes hml hown hts hK hE (fun q h => Or.inr h) (Nat.le_refl _) (Nat.le_refl _) (fun r  H locs ls pc hP hD hS hz hk hd => W.zret (v := r) B.exec B.bytes B.returns hz.n (fun t ht hW => ⟨⟨r, (), rfl, hk, by rw [ht]; exact hP, va_K.moved hW.alike hK, hD⟩, hS.F ht⟩) hS.2.2 hd) hP hD h

abbrev w_X4_takeBack (Y : Nat → ClassId) (h_t : Nat) (B_t : Nat → Nat) (t_named : Int32) (t_names : Nat → Int32) : va_W := [(h_t, .inr (4, [.ref (B_t 0), .ref (B_t 1), .ref (B_t 2), .ref (B_t 3), .ref (B_t 4), .int t_named])), ((B_t 2), .inl (Y 0, 8, .inl t_names))]

set_option maxHeartbeats 4000000 in
set_option maxRecDepth 100000 in
theorem wk_X4_takeBack {p : Program} {l : Launch} {e : Env} {R : Room} {s : State} {m : MethodId} {args : Array Value} {below : List Frame} {meth : Method} {c : Code} {Q : State → Prop} {G : va_G} {Y : Nat → ClassId} {tF : Nat} {A : Nat → Prop} (h_t : Nat) (B_t : Nat → Nat) (t_named : Int32) (t_names : Nat → Int32) (x1 : Int32) {K : Int32 → (Nat → Int32) → Prop} (hx : p.tables.exec = Jvm.exec) (hb : c.code = cX4_takeBack) (hml : c.maxLocals = 2) (hown : s.vm.findClass RX4 = some m.cls) (hts : ∀ w ∈ wsX4_takeBack, w.before args s = true) (hK : va_K G vwCl (tyL Y) s) (hE : Ev A tF s) (hA : ∀ q, s.heap.size ≤ q → A q) (hRf : 0 ≤ R.frames) (hRl : 0 ≤ R.locals) (hret : ∀ (t_named : Int32) (t_names : Nat → Int32) (H : Heap) (locs : List Loc) (ls : Array Slot) (pc : Nat), va_P G vwCl (w_X4_takeBack Y h_t B_t t_named t_names) H → va_D A (w_X4_takeBack Y h_t B_t t_named t_names) → va_S A s.heap H locs → K t_named t_names → decode cX4_takeBack pc = .ok (.return_, 1) → W p l e R s m args below meth c H locs 0 0 Q (F0 m pc ls [])) (hP : va_P G vwCl (w_X4_takeBack Y h_t B_t t_named t_names) s.heap) (hD : va_D A (w_X4_takeBack Y h_t B_t t_named t_names)) (h : pX4_takeBack t_named t_names x1 K) : W p l e R s m args below meth c s.heap [] 0 0 Q (entryFrame m ([.ref h_t, .int x1] : List Value).toArray 2) := by
  have inX4 : ∀ w ∈ u_ws RX4 TX4 6, w ∈ wsX4_takeBack := by decide +kernel
  have hf24 := hts (.fieldLink RX4 24 "RackBench$Namer" "names" "[I") (by decide +kernel)
  have hf33 := hts (.fieldLink RX4 33 "RackBench$Namer" "named" "I") (by decide +kernel)
  have hl := lv_entry ([.ref h_t, .int x1]) (n := 2) (Nat.le_of_ble_eq_true rfl)
  rw [lg_entry_eq]
  generalize (lg_sl ([.ref h_t, .int x1]) ++ List.replicate (2 - (lg_sl ([.ref h_t, .int x1])).length) Slot.unset).toArray = ls at hl ⊢
  have hl : lv_has ls 2 [(0, .ref h_t), (1, .int x1)] := hl
  generalize hH0 : s.heap = H at hP ⊢
  have hS : va_S A s.heap H [] := by rw [← hH0]; exact va_S.rf
  clear hH0
  generalize ([] : List Loc) = locs at hS ⊢
  refine lv_aload_n hx hb dX4_takeBack_0 rfl (lv_at hl 0 rfl) ?_
  refine lv_dup hx hb dX4_takeBack_1 rfl ?_
  refine va_get (D := G) (ci := 4) (v := .int t_named) (C := RX4) (T := TX4) (N := 6) hx hb hts inX4 hown hK hP 0 rfl rfl 5 (by decide) hf33 (fun _ h9 => h9) rfl dX4_takeBack_2 ?_
  refine lv_iconst (v := 1) hx hb dX4_takeBack_5 (by decide) ?_
  refine lv_isub hx hb dX4_takeBack_6 ?_
  refine va_put (D := G) (ci := 4) (v := .int (t_named - (1 : Int32))) (ty := .int) (C := RX4) (T := TX4) (N := 6) hx hb hts inX4 tyX4 tyX4_ok nmX4 hown hK hP hD hS 0 rfl rfl 5 (by decide) hf33 (fun _ h9 => h9) rfl (by decide +kernel) rfl rfl (Nat.le_of_ble_eq_true rfl) dX4_takeBack_7 (fun H locs hP hD hS => ?_)
  have hP : va_P G vwCl (w_X4_takeBack Y h_t B_t (t_named - (1 : Int32)) t_names) H := hP
  have hD : va_D A (w_X4_takeBack Y h_t B_t (t_named - (1 : Int32)) t_names) := hD
  refine lv_aload_n hx hb dX4_takeBack_10 rfl (lv_at hl 0 rfl) ?_
  refine va_get (D := G) (ci := 4) (v := .ref (B_t 2)) (C := RX4) (T := TX4) (N := 6) hx hb hts inX4 hown hK hP 0 rfl rfl 2 (by decide) hf24 (fun _ h9 => h9) rfl dX4_takeBack_11 ?_
  refine lv_iload_n hx hb dX4_takeBack_14 rfl (lv_at hl 1 rfl) ?_
  refine lv_iconst (v := -1) hx hb dX4_takeBack_15 (by decide) ?_
  obtain ⟨hin, h⟩ := h
  refine va_iast hx hb hK hP hD hS 1 0 rfl rfl hin dX4_takeBack_16 (fun H locs hP hD hS => ?_)
  have hP : va_P G vwCl (w_X4_takeBack Y h_t B_t (t_named - (1 : Int32)) (upd t_names (Int32.toNatClampNeg x1) (-1 : Int32))) H := hP
  have hD : va_D A (w_X4_takeBack Y h_t B_t (t_named - (1 : Int32)) (upd t_names (Int32.toNatClampNeg x1) (-1 : Int32))) := hD
  exact hret (t_named - (1 : Int32)) (upd t_names (Int32.toNatClampNeg x1) (-1 : Int32)) H locs ls _ hP hD hS h dX4_takeBack_17

set_option maxHeartbeats 4000000 in
set_option maxRecDepth 100000 in
theorem c_X4_takeBack (l : Launch) (G : va_G) (Y : Nat → ClassId) (tF sz : Nat) (h_t : Nat) (B_t : Nat → Nat) (t_named : Int32) (t_names : Nat → Int32) (x1 : Int32) {K : Int32 → (Nat → Int32) → Prop} (h : pX4_takeBack t_named t_names x1 K) : Met l yX4_takeBack wsX4_takeBack ({ frames := 0, cells := 0, slots := 0, locals := 0 }) (PcM G Y tF sz (w_X4_takeBack Y h_t B_t t_named t_names) [.ref h_t, .int x1]) (va_Qv (fun u : Int32 × (Nat → Int32) => K u.1 u.2) (fun u t => BM G Y (va_A (w_X4_takeBack Y h_t B_t t_named t_names) sz) (w_X4_takeBack Y h_t B_t u.1 u.2) t) (va_A (w_X4_takeBack Y h_t B_t t_named t_names) sz)) 0 0 (va_A (w_X4_takeBack Y h_t B_t t_named t_names) sz) := by
  refine Met.ofW (cc := cX4_takeBack) (maxL := 2) (ret := none) (by decide +kernel) rfl ?_
  intro p e s m args below meth c s₁ B hml hv
  obtain ⟨rfl, hsz, hP, hK, hD0, hE⟩ := hv
  have hts := atoms_spec (ws := wsX4_takeBack) B.pre
  have hown : s.vm.findClass RX4 = some m.cls := findClass_of_methodNamed B.named
  have hlocks := B.notSynchronized
  subst hsz
  have hD := hD0.self (sz := s.heap.size)
  exact wk_X4_takeBack h_t B_t t_named t_names x1 B.exec B.bytes hml hown hts hK hE (fun q h => Or.inr h) (Nat.le_refl _) (Nat.le_refl _) (fun t_named t_names H locs ls pc hP hD hS hk hd => W.vret B.exec B.bytes B.returns (fun t ht hW => ⟨⟨(t_named, t_names), rfl, hk, by rw [ht]; exact hP, va_K.moved hW.alike hK, hD⟩, hS.F ht⟩) hS.2.2 hd) hP hD h

abbrev w_X4_nameColumn (Y : Nat → ClassId) (h_t : Nat) (h_p1 : Nat) (B_t : Nat → Nat) (B_t_best : Nat → Nat) (B_p1 : Nat → Nat) (t_named : Int32) (t_best_n : Int32) (t_best_cells : Nat → Int32) (t_firstRow : Nat → Int32) (t_names : Nat → Int32) (t_things : Nat → Int32) (t_twins : Nat → Int32) (p1_n : Int32) (p1_cells : Nat → Int32) : va_W := [(h_t, .inr (4, [.ref (B_t 0), .ref (B_t 1), .ref (B_t 2), .ref (B_t 3), .ref (B_t 4), .int t_named])), ((B_t 0), .inr (6, [.ref (B_t_best 0), .int t_best_n])), ((B_t_best 0), .inl (Y 0, 64, .inl t_best_cells)), ((B_t 4), .inl (Y 0, 8, .inl t_firstRow)), ((B_t 2), .inl (Y 0, 8, .inl t_names)), ((B_t 1), .inl (Y 0, 8, .inl t_things)), ((B_t 3), .inl (Y 0, 8, .inl t_twins)), (h_p1, .inr (6, [.ref (B_p1 0), .int p1_n])), ((B_p1 0), .inl (Y 0, 64, .inl p1_cells))]

abbrev w_X4_goThrough (Y : Nat → ClassId) (h_t : Nat) (h_p1 : Nat) (B_t : Nat → Nat) (B_t_best : Nat → Nat) (B_p1 : Nat → Nat) (t_named : Int32) (t_best_n : Int32) (t_best_cells : Nat → Int32) (t_firstRow : Nat → Int32) (t_names : Nat → Int32) (t_things : Nat → Int32) (t_twins : Nat → Int32) (p1_n : Int32) (p1_cells : Nat → Int32) : va_W := [(h_t, .inr (4, [.ref (B_t 0), .ref (B_t 1), .ref (B_t 2), .ref (B_t 3), .ref (B_t 4), .int t_named])), ((B_t 0), .inr (6, [.ref (B_t_best 0), .int t_best_n])), ((B_t_best 0), .inl (Y 0, 64, .inl t_best_cells)), ((B_t 4), .inl (Y 0, 8, .inl t_firstRow)), ((B_t 2), .inl (Y 0, 8, .inl t_names)), ((B_t 1), .inl (Y 0, 8, .inl t_things)), ((B_t 3), .inl (Y 0, 8, .inl t_twins)), (h_p1, .inr (6, [.ref (B_p1 0), .int p1_n])), ((B_p1 0), .inl (Y 0, 64, .inl p1_cells))]

set_option maxHeartbeats 4000000 in
set_option maxRecDepth 100000 in
theorem wk_X4_goThrough {p : Program} {l : Launch} {e : Env} {R : Room} {s : State} {m : MethodId} {args : Array Value} {below : List Frame} {meth : Method} {c : Code} {Q : State → Prop} {G : va_G} {Y : Nat → ClassId} {tF : Nat} {A : Nat → Prop} (h_t : Nat) (h_p1 : Nat) (B_t : Nat → Nat) (B_t_best : Nat → Nat) (B_p1 : Nat → Nat) (t_named : Int32) (t_best_n : Int32) (t_best_cells : Nat → Int32) (t_firstRow : Nat → Int32) (t_names : Nat → Int32) (t_things : Nat → Int32) (t_twins : Nat → Int32) (p1_n : Int32) (p1_cells : Nat → Int32) (x2 : Int32) {rec : Int32 → (Nat → Int32) → (Nat → Int32) → (Nat → Int32) → (Nat → Int32) → (Nat → Int32) → Int32 → (Nat → Int32) → Int32 → (Int32 → (Nat → Int32) → (Nat → Int32) → (Nat → Int32) → (Nat → Int32) → Prop) → Prop} {fB lB : Nat} (hRcF : fB + 1 ≤ R.frames) (hRcL : 8 + (4 + 11) + lB ≤ R.locals) (hrec : ∀ (sz : Nat) (h_t : Nat) (h_p1 : Nat) (B_t : Nat → Nat) (B_t_best : Nat → Nat) (B_p1 : Nat → Nat) (t_named : Int32) (t_best_n : Int32) (t_best_cells : Nat → Int32) (t_firstRow : Nat → Int32) (t_names : Nat → Int32) (t_things : Nat → Int32) (t_twins : Nat → Int32) (p1_n : Int32) (p1_cells : Nat → Int32) (x2 : Int32) {K : Int32 → (Nat → Int32) → (Nat → Int32) → (Nat → Int32) → (Nat → Int32) → Prop}, rec t_named t_best_cells t_firstRow t_names t_things t_twins p1_n p1_cells x2 K → Met l yX4_nameColumn wsX4_nameColumn ({ frames := fB, cells := 0, slots := 0, locals := lB }) (PcM G Y tF sz (w_X4_nameColumn Y h_t h_p1 B_t B_t_best B_p1 t_named t_best_n t_best_cells t_firstRow t_names t_things t_twins p1_n p1_cells) [.ref h_t, .ref h_p1, .int x2]) (va_Qv (fun u : Int32 × (Nat → Int32) × (Nat → Int32) × (Nat → Int32) × (Nat → Int32) => K u.1 u.2.1 u.2.2.1 u.2.2.2.1 u.2.2.2.2) (fun u t => BM G Y (va_A (w_X4_nameColumn Y h_t h_p1 B_t B_t_best B_p1 t_named t_best_n t_best_cells t_firstRow t_names t_things t_twins p1_n p1_cells) sz) (w_X4_nameColumn Y h_t h_p1 B_t B_t_best B_p1 u.1 t_best_n u.2.1 u.2.2.1 u.2.2.2.1 u.2.2.2.2 t_twins p1_n p1_cells) t) (va_A (w_X4_nameColumn Y h_t h_p1 B_t B_t_best B_p1 t_named t_best_n t_best_cells t_firstRow t_names t_things t_twins p1_n p1_cells) sz)) 0 0 (va_A (w_X4_nameColumn Y h_t h_p1 B_t B_t_best B_p1 t_named t_best_n t_best_cells t_firstRow t_names t_things t_twins p1_n p1_cells) sz)) {K : Int32 → (Nat → Int32) → (Nat → Int32) → (Nat → Int32) → (Nat → Int32) → Prop} (hx : p.tables.exec = Jvm.exec) (hb : c.code = cX4_goThrough) (hml : c.maxLocals = 5) (hown : s.vm.findClass RX4 = some m.cls) (hts : ∀ w ∈ wsX4_goThrough, w.before args s = true) (hK : va_K G vwCl (tyL Y) s) (hE : Ev A tF s) (hA : ∀ q, s.heap.size ≤ q → A q) (hRf : 2 ≤ R.frames) (hRl : 46 ≤ R.locals) (hret : ∀ (t_named : Int32) (t_best_cells : Nat → Int32) (t_firstRow : Nat → Int32) (t_names : Nat → Int32) (t_things : Nat → Int32) (H : Heap) (locs : List Loc) (ls : Array Slot) (pc : Nat), va_P G vwCl (w_X4_goThrough Y h_t h_p1 B_t B_t_best B_p1 t_named t_best_n t_best_cells t_firstRow t_names t_things t_twins p1_n p1_cells) H → va_D A (w_X4_goThrough Y h_t h_p1 B_t B_t_best B_p1 t_named t_best_n t_best_cells t_firstRow t_names t_things t_twins p1_n p1_cells) → va_S A s.heap H locs → K t_named t_best_cells t_firstRow t_names t_things → decode cX4_goThrough pc = .ok (.return_, 1) → W p l e R s m args below meth c H locs 0 0 Q (F0 m pc ls [])) (hP : va_P G vwCl (w_X4_goThrough Y h_t h_p1 B_t B_t_best B_p1 t_named t_best_n t_best_cells t_firstRow t_names t_things t_twins p1_n p1_cells) s.heap) (hD : va_D A (w_X4_goThrough Y h_t h_p1 B_t B_t_best B_p1 t_named t_best_n t_best_cells t_firstRow t_names t_things t_twins p1_n p1_cells)) (h : pX4_goThrough_b rec t_named t_best_cells t_firstRow t_names t_things t_twins p1_n p1_cells x2 K) : W p l e R s m args below meth c s.heap [] 0 0 Q (entryFrame m ([.ref h_t, .ref h_p1, .int x2] : List Value).toArray 5) := by
  have inX4 : ∀ w ∈ u_ws RX4 TX4 6, w ∈ wsX4_goThrough := by decide +kernel
  have hf20 := hts (.fieldLink RX4 20 "RackBench$Namer" "things" "[I") (by decide +kernel)
  have hf24 := hts (.fieldLink RX4 24 "RackBench$Namer" "names" "[I") (by decide +kernel)
  have hf30 := hts (.fieldLink RX4 30 "RackBench$Namer" "firstRow" "[I") (by decide +kernel)
  have hl := lv_entry ([.ref h_t, .ref h_p1, .int x2]) (n := 5) (Nat.le_of_ble_eq_true rfl)
  rw [lg_entry_eq]
  generalize (lg_sl ([.ref h_t, .ref h_p1, .int x2]) ++ List.replicate (5 - (lg_sl ([.ref h_t, .ref h_p1, .int x2])).length) Slot.unset).toArray = ls at hl ⊢
  have hl : lv_has ls 5 [(0, .ref h_t), (1, .ref h_p1), (2, .int x2)] := hl
  generalize hH0 : s.heap = H at hP ⊢
  have hS : va_S A s.heap H [] := by rw [← hH0]; exact va_S.rf
  clear hH0
  generalize ([] : List Loc) = locs at hS ⊢
  have J72 : ∀ (x3 : Int32) (x4 : Int32) (t_named : Int32) (t_best_cells : Nat → Int32) (t_firstRow : Nat → Int32) (t_names : Nat → Int32) (t_things : Nat → Int32) (H : Heap) (locs : List Loc) (ls : Array Slot), pX4_goThrough_72 t_twins p1_n p1_cells rec K x3 x4 t_named t_best_cells t_firstRow t_names t_things → va_P G vwCl (w_X4_goThrough Y h_t h_p1 B_t B_t_best B_p1 t_named t_best_n t_best_cells t_firstRow t_names t_things t_twins p1_n p1_cells) H → va_D A (w_X4_goThrough Y h_t h_p1 B_t B_t_best B_p1 t_named t_best_n t_best_cells t_firstRow t_names t_things t_twins p1_n p1_cells) → va_S A s.heap H locs → lv_has ls 5 [(0, .ref h_t), (3, .int x3), (4, .int x4)] → W p l e R s m args below meth c H locs 0 0 Q (F0 m 72 ls []) := by
    intro x3 x4 t_named t_best_cells t_firstRow t_names t_things H locs ls h hP hD hS hl
    refine lv_iload hx hb dX4_goThrough_72 (lv_at hl 2 rfl) ?_
    obtain ⟨ht, hf⟩ := h
    refine lv_if_eq (tgt := 82) hx hb dX4_goThrough_74 (by decide) (fun c9 => ?_) (fun c9 => ?_)
    · have h := ht c9
      exact hret t_named t_best_cells t_firstRow t_names t_things H locs ls _ hP hD hS h dX4_goThrough_82
    · have h := hf c9
      refine lv_aload_n hx hb dX4_goThrough_77 rfl (lv_at hl 0 rfl) ?_
      refine lv_iload_n hx hb dX4_goThrough_78 rfl (lv_at hl 1 rfl) ?_
      refine mc_vV ⟨hx, hb, hml, hown, hts⟩ hK hE hA hP hD hS (c_X4_takeBack l G Y tF H.size h_t B_t t_named t_names x3 h) (cwV 1 hts gX4_goThrough_X4_takeBack rfl rfl rfl (by decide +kernel) ⟨Nat.le_trans (by decide) hRf, Nat.le_trans (by decide) hRl⟩) (fun u => (w_X4_goThrough Y h_t h_p1 B_t B_t_best B_p1 u.1 t_best_n t_best_cells t_firstRow u.2 t_things t_twins p1_n p1_cells)) [0, 4] [1, 2, 3, 5, 6, 7, 8] [7, 0, 1, 2, 8, 3, 4, 5, 6] rfl rfl rfl rfl (by decide) (fun _ => rfl) rfl 0 4 rfl rfl rfl rfl hl.1 rfl (Nat.le_of_ble_eq_true rfl) dX4_goThrough_79 (fun u H locs h hP hD hS => ?_)
      obtain ⟨t_named_79, t_names_79⟩ := u
      try dsimp only at h
      have hP : va_P G vwCl (w_X4_goThrough Y h_t h_p1 B_t B_t_best B_p1 t_named_79 t_best_n t_best_cells t_firstRow t_names_79 t_things t_twins p1_n p1_cells) H := hP
      have hD : va_D A (w_X4_goThrough Y h_t h_p1 B_t B_t_best B_p1 t_named_79 t_best_n t_best_cells t_firstRow t_names_79 t_things t_twins p1_n p1_cells) := hD
      exact hret t_named_79 t_best_cells t_firstRow t_names_79 t_things H locs ls _ hP hD hS h dX4_goThrough_82
  have J44 : ∀ (x2 : Int32) (x3 : Int32) (x4 : Int32) (t_named : Int32) (t_best_cells : Nat → Int32) (t_firstRow : Nat → Int32) (t_names : Nat → Int32) (t_things : Nat → Int32) (H : Heap) (locs : List Loc) (ls : Array Slot), pX4_goThrough_44 t_twins p1_n p1_cells rec K x2 x3 x4 t_named t_best_cells t_firstRow t_names t_things → va_P G vwCl (w_X4_goThrough Y h_t h_p1 B_t B_t_best B_p1 t_named t_best_n t_best_cells t_firstRow t_names t_things t_twins p1_n p1_cells) H → va_D A (w_X4_goThrough Y h_t h_p1 B_t B_t_best B_p1 t_named t_best_n t_best_cells t_firstRow t_names t_things t_twins p1_n p1_cells) → va_S A s.heap H locs → lv_has ls 5 [(0, .ref h_t), (1, .ref h_p1), (2, .int x2), (3, .int x3), (4, .int x4)] → W p l e R s m args below meth c H locs 0 0 Q (F0 m 44 ls []) := by
    intro x2 x3 x4 t_named t_best_cells t_firstRow t_names t_things H locs ls h hP hD hS hl
    refine lv_aload_n hx hb dX4_goThrough_44 rfl (lv_at hl 0 rfl) ?_
    refine va_get (D := G) (ci := 4) (v := .ref (B_t 4)) (C := RX4) (T := TX4) (N := 6) hx hb hts inX4 hown hK hP 0 rfl rfl 4 (by decide) hf30 (fun _ h9 => h9) rfl dX4_goThrough_45 ?_
    refine lv_iload_n hx hb dX4_goThrough_48 rfl (lv_at hl 2 rfl) ?_
    refine lv_aload_n hx hb dX4_goThrough_49 rfl (lv_at hl 0 rfl) ?_
    refine va_get (D := G) (ci := 4) (v := .ref (B_t 2)) (C := RX4) (T := TX4) (N := 6) hx hb hts inX4 hown hK hP 0 rfl rfl 2 (by decide) hf24 (fun _ h9 => h9) rfl dX4_goThrough_50 ?_
    refine lv_iload_n hx hb dX4_goThrough_53 rfl (lv_at hl 3 rfl) ?_
    obtain ⟨hin, h⟩ := h
    refine va_iald hx hb hK hP 4 0 rfl rfl hin dX4_goThrough_54 ?_
    obtain ⟨hin, h⟩ := h
    refine va_iast hx hb hK hP hD hS 3 0 rfl rfl hin dX4_goThrough_55 (fun H locs hP hD hS => ?_)
    have hP : va_P G vwCl (w_X4_goThrough Y h_t h_p1 B_t B_t_best B_p1 t_named t_best_n t_best_cells (upd t_firstRow (Int32.toNatClampNeg x2) (t_names (Int32.toNatClampNeg x3))) t_names t_things t_twins p1_n p1_cells) H := hP
    have hD : va_D A (w_X4_goThrough Y h_t h_p1 B_t B_t_best B_p1 t_named t_best_n t_best_cells (upd t_firstRow (Int32.toNatClampNeg x2) (t_names (Int32.toNatClampNeg x3))) t_names t_things t_twins p1_n p1_cells) := hD
    refine lv_aload_n hx hb dX4_goThrough_56 rfl (lv_at hl 0 rfl) ?_
    refine lv_iload_n hx hb dX4_goThrough_57 rfl (lv_at hl 2 rfl) ?_
    refine mc_iV ⟨hx, hb, hml, hown, hts⟩ hK hE hA hP hD hS (c_X4_isAboveBest l G Y tF H.size h_t B_t B_t_best t_named t_best_n t_best_cells (upd t_firstRow (Int32.toNatClampNeg x2) (t_names (Int32.toNatClampNeg x3))) x2 h) (cwV 1 hts gX4_goThrough_X4_isAboveBest rfl rfl rfl (by decide +kernel) ⟨Nat.le_trans (by decide) hRf, Nat.le_trans (by decide) hRl⟩) (fun u => (w_X4_goThrough Y h_t h_p1 B_t B_t_best B_p1 t_named t_best_n t_best_cells (upd t_firstRow (Int32.toNatClampNeg x2) (t_names (Int32.toNatClampNeg x3))) t_names t_things t_twins p1_n p1_cells)) [0, 1, 2, 3] [4, 5, 6, 7, 8] [5, 6, 7, 8, 0, 1, 2, 3, 4] rfl rfl rfl rfl (by decide) (fun _ => rfl) rfl 0 4 rfl rfl rfl rfl hl.1 rfl (Nat.le_of_ble_eq_true rfl) dX4_goThrough_58 (fun r58 u H locs h hP hD hS => ?_)
    try dsimp only at h
    have hP : va_P G vwCl (w_X4_goThrough Y h_t h_p1 B_t B_t_best B_p1 t_named t_best_n t_best_cells (upd t_firstRow (Int32.toNatClampNeg x2) (t_names (Int32.toNatClampNeg x3))) t_names t_things t_twins p1_n p1_cells) H := hP
    have hD : va_D A (w_X4_goThrough Y h_t h_p1 B_t B_t_best B_p1 t_named t_best_n t_best_cells (upd t_firstRow (Int32.toNatClampNeg x2) (t_names (Int32.toNatClampNeg x3))) t_names t_things t_twins p1_n p1_cells) := hD
    obtain ⟨ht, hf⟩ := h
    refine lv_if_ne (tgt := 72) hx hb dX4_goThrough_61 (by decide) (fun c9 => ?_) (fun c9 => ?_)
    · have h := ht c9
      exact J72 x3 x4 t_named t_best_cells (upd t_firstRow (Int32.toNatClampNeg x2) (t_names (Int32.toNatClampNeg x3))) t_names t_things H locs ls h hP hD hS (lv_sub hl [0, 3, 4] rfl)
    · have h := hf c9
      refine lv_aload_n hx hb dX4_goThrough_64 rfl (lv_at hl 0 rfl) ?_
      refine lv_aload_n hx hb dX4_goThrough_65 rfl (lv_at hl 1 rfl) ?_
      refine lv_iload_n hx hb dX4_goThrough_66 rfl (lv_at hl 2 rfl) ?_
      refine lv_iconst (v := 1) hx hb dX4_goThrough_67 (by decide) ?_
      refine lv_iadd hx hb dX4_goThrough_68 ?_
      refine mc_vV ⟨hx, hb, hml, hown, hts⟩ hK hE hA hP hD hS (hrec H.size h_t h_p1 B_t B_t_best B_p1 t_named t_best_n t_best_cells (upd t_firstRow (Int32.toNatClampNeg x2) (t_names (Int32.toNatClampNeg x3))) t_names t_things t_twins p1_n p1_cells (x2 + (1 : Int32)) h) (cwV 2 hts gX4_goThrough_X4_nameColumn rfl rfl rfl (by decide +kernel) ⟨hRcF, hRcL⟩) (fun u => (w_X4_goThrough Y h_t h_p1 B_t B_t_best B_p1 u.1 t_best_n u.2.1 u.2.2.1 u.2.2.2.1 u.2.2.2.2 t_twins p1_n p1_cells)) [0, 1, 2, 3, 4, 5, 6, 7, 8] [] [0, 1, 2, 3, 4, 5, 6, 7, 8] rfl rfl rfl rfl (by decide) (fun _ => rfl) rfl 0 4 rfl rfl rfl rfl hl.1 rfl (Nat.le_of_ble_eq_true rfl) dX4_goThrough_69 (fun u H locs h hP hD hS => ?_)
      obtain ⟨t_named_69, t_best_cells_69, t_firstRow_69, t_names_69, t_things_69⟩ := u
      try dsimp only at h
      have hP : va_P G vwCl (w_X4_goThrough Y h_t h_p1 B_t B_t_best B_p1 t_named_69 t_best_n t_best_cells_69 t_firstRow_69 t_names_69 t_things_69 t_twins p1_n p1_cells) H := hP
      have hD : va_D A (w_X4_goThrough Y h_t h_p1 B_t B_t_best B_p1 t_named_69 t_best_n t_best_cells_69 t_firstRow_69 t_names_69 t_things_69 t_twins p1_n p1_cells) := hD
      exact J72 x3 x4 t_named_69 t_best_cells_69 t_firstRow_69 t_names_69 t_things_69 H locs ls h hP hD hS (lv_sub hl [0, 3, 4] rfl)
  have J32 : ∀ (x2 : Int32) (x3 : Int32) (s0 : Int32) (t_named : Int32) (t_best_cells : Nat → Int32) (t_firstRow : Nat → Int32) (t_names : Nat → Int32) (t_things : Nat → Int32) (H : Heap) (locs : List Loc) (ls : Array Slot), pX4_goThrough_32 t_twins p1_n p1_cells rec K x2 x3 s0 t_named t_best_cells t_firstRow t_names t_things → va_P G vwCl (w_X4_goThrough Y h_t h_p1 B_t B_t_best B_p1 t_named t_best_n t_best_cells t_firstRow t_names t_things t_twins p1_n p1_cells) H → va_D A (w_X4_goThrough Y h_t h_p1 B_t B_t_best B_p1 t_named t_best_n t_best_cells t_firstRow t_names t_things t_twins p1_n p1_cells) → va_S A s.heap H locs → lv_has ls 5 [(0, .ref h_t), (1, .ref h_p1), (2, .int x2), (3, .int x3)] → W p l e R s m args below meth c H locs 0 0 Q (F0 m 32 ls [.int s0]) := by
    intro x2 x3 s0 t_named t_best_cells t_firstRow t_names t_things H locs ls h hP hD hS hl
    refine lv_istore (lv' := [(4, .int s0), (0, .ref h_t), (1, .ref h_p1), (2, .int x2), (3, .int x3)]) hx hb dX4_goThrough_32 hl (by decide) rfl (fun ls hl => ?_)
    refine lv_iload hx hb dX4_goThrough_34 (lv_at hl 0 rfl) ?_
    obtain ⟨ht, hf⟩ := h
    refine lv_if_eq (tgt := 44) hx hb dX4_goThrough_36 (by decide) (fun c9 => ?_) (fun c9 => ?_)
    · have h := ht c9
      exact J44 x2 x3 s0 t_named t_best_cells t_firstRow t_names t_things H locs ls h hP hD hS (lv_sub hl [1, 2, 3, 4, 0] rfl)
    · have h := hf c9
      refine lv_aload_n hx hb dX4_goThrough_39 rfl (lv_at hl 1 rfl) ?_
      refine lv_iload_n hx hb dX4_goThrough_40 rfl (lv_at hl 4 rfl) ?_
      refine mc_vV ⟨hx, hb, hml, hown, hts⟩ hK hE hA hP hD hS (c_X4_give l G Y tF H.size h_t B_t t_named t_names t_things x3 h) (cwV 1 hts gX4_goThrough_X4_give rfl rfl rfl (by decide +kernel) ⟨Nat.le_trans (by decide) hRf, Nat.le_trans (by decide) hRl⟩) (fun u => (w_X4_goThrough Y h_t h_p1 B_t B_t_best B_p1 u.1 t_best_n t_best_cells t_firstRow u.2.1 u.2.2 t_twins p1_n p1_cells)) [0, 4, 5] [1, 2, 3, 6, 7, 8] [6, 0, 1, 2, 7, 8, 3, 4, 5] rfl rfl rfl rfl (by decide) (fun _ => rfl) rfl 0 4 rfl rfl rfl rfl hl.1 rfl (Nat.le_of_ble_eq_true rfl) dX4_goThrough_41 (fun u H locs h hP hD hS => ?_)
      obtain ⟨t_named_41, t_names_41, t_things_41⟩ := u
      try dsimp only at h
      have hP : va_P G vwCl (w_X4_goThrough Y h_t h_p1 B_t B_t_best B_p1 t_named_41 t_best_n t_best_cells t_firstRow t_names_41 t_things_41 t_twins p1_n p1_cells) H := hP
      have hD : va_D A (w_X4_goThrough Y h_t h_p1 B_t B_t_best B_p1 t_named_41 t_best_n t_best_cells t_firstRow t_names_41 t_things_41 t_twins p1_n p1_cells) := hD
      exact J44 x2 x3 s0 t_named_41 t_best_cells t_firstRow t_names_41 t_things_41 H locs ls h hP hD hS (lv_sub hl [1, 2, 3, 4, 0] rfl)
  refine lv_aload_n hx hb dX4_goThrough_0 rfl (lv_at hl 1 rfl) ?_
  refine lv_aload_n hx hb dX4_goThrough_1 rfl (lv_at hl 0 rfl) ?_
  refine va_get (D := G) (ci := 4) (v := .ref (B_t 1)) (C := RX4) (T := TX4) (N := 6) hx hb hts inX4 hown hK hP 0 rfl rfl 1 (by decide) hf20 (fun _ h9 => h9) rfl dX4_goThrough_2 ?_
  refine lv_iconst (v := 0) hx hb dX4_goThrough_5 (by decide) ?_
  obtain ⟨hin, h⟩ := h
  refine va_iald hx hb hK hP 5 0 rfl rfl hin dX4_goThrough_6 ?_
  refine lv_aload_n hx hb dX4_goThrough_7 rfl (lv_at hl 0 rfl) ?_
  refine va_get (D := G) (ci := 4) (v := .ref (B_t 1)) (C := RX4) (T := TX4) (N := 6) hx hb hts inX4 hown hK hP 0 rfl rfl 1 (by decide) hf20 (fun _ h9 => h9) rfl dX4_goThrough_8 ?_
  refine lv_iload_n hx hb dX4_goThrough_11 rfl (lv_at hl 2 rfl) ?_
  obtain ⟨hin, h⟩ := h
  refine va_iald hx hb hK hP 5 0 rfl rfl hin dX4_goThrough_12 ?_
  refine mc_iV ⟨hx, hb, hml, hown, hts⟩ hK hE hA hP hD hS (c_X7_turned l G Y tF H.size h_p1 B_p1 p1_n p1_cells (t_things (Int32.toNatClampNeg (0 : Int32))) (t_things (Int32.toNatClampNeg x2)) h) (cwV 2 hts gX4_goThrough_X7_turned rfl rfl rfl (by decide +kernel) ⟨Nat.le_trans (by decide) hRf, Nat.le_trans (by decide) hRl⟩) (fun u => (w_X4_goThrough Y h_t h_p1 B_t B_t_best B_p1 t_named t_best_n t_best_cells t_firstRow t_names t_things t_twins p1_n p1_cells)) [7, 8] [0, 1, 2, 3, 4, 5, 6] [0, 1, 2, 3, 4, 5, 6, 7, 8] rfl rfl rfl rfl (by decide) (fun _ => rfl) rfl 7 6 rfl rfl rfl rfl hl.1 rfl (Nat.le_of_ble_eq_true rfl) dX4_goThrough_13 (fun r13 u H locs h hP hD hS => ?_)
  try dsimp only at h
  have hP : va_P G vwCl (w_X4_goThrough Y h_t h_p1 B_t B_t_best B_p1 t_named t_best_n t_best_cells t_firstRow t_names t_things t_twins p1_n p1_cells) H := hP
  have hD : va_D A (w_X4_goThrough Y h_t h_p1 B_t B_t_best B_p1 t_named t_best_n t_best_cells t_firstRow t_names t_things t_twins p1_n p1_cells) := hD
  refine lv_istore_n (lv' := [(3, .int r13), (0, .ref h_t), (1, .ref h_p1), (2, .int x2)]) hx hb dX4_goThrough_16 rfl hl (by decide) rfl (fun ls hl => ?_)
  refine lv_aload_n hx hb dX4_goThrough_17 rfl (lv_at hl 1 rfl) ?_
  refine va_get (D := G) (ci := 4) (v := .ref (B_t 2)) (C := RX4) (T := TX4) (N := 6) hx hb hts inX4 hown hK hP 0 rfl rfl 2 (by decide) hf24 (fun _ h9 => h9) rfl dX4_goThrough_18 ?_
  refine lv_iload_n hx hb dX4_goThrough_21 rfl (lv_at hl 0 rfl) ?_
  obtain ⟨hin, h⟩ := h
  refine va_iald hx hb hK hP 4 0 rfl rfl hin dX4_goThrough_22 ?_
  refine lv_iconst (v := -1) hx hb dX4_goThrough_23 (by decide) ?_
  obtain ⟨ht, hf⟩ := h
  refine lv_icmp_ne (tgt := 31) hx hb dX4_goThrough_24 (by decide) (fun c9 => ?_) (fun c9 => ?_)
  · have h := ht c9
    refine lv_iconst (v := 0) hx hb dX4_goThrough_31 (by decide) ?_
    exact J32 x2 r13 (0 : Int32) t_named t_best_cells t_firstRow t_names t_things H locs ls h hP hD hS (lv_sub hl [1, 2, 3, 0] rfl)
  · have h := hf c9
    refine lv_iconst (v := 1) hx hb dX4_goThrough_27 (by decide) ?_
    refine lv_goto (tgt := 32) hx hb dX4_goThrough_28 (by decide) ?_
    exact J32 x2 r13 (1 : Int32) t_named t_best_cells t_firstRow t_names t_things H locs ls h hP hD hS (lv_sub hl [1, 2, 3, 0] rfl)

abbrev w_X4_hasOpenTwin (Y : Nat → ClassId) (h_t : Nat) (B_t : Nat → Nat) (t_named : Int32) (t_names : Nat → Int32) (t_twins : Nat → Int32) : va_W := [(h_t, .inr (4, [.ref (B_t 0), .ref (B_t 1), .ref (B_t 2), .ref (B_t 3), .ref (B_t 4), .int t_named])), ((B_t 2), .inl (Y 0, 8, .inl t_names)), ((B_t 3), .inl (Y 0, 8, .inl t_twins))]

set_option maxHeartbeats 4000000 in
set_option maxRecDepth 100000 in
theorem wk_X4_hasOpenTwin {p : Program} {l : Launch} {e : Env} {R : Room} {s : State} {m : MethodId} {args : Array Value} {below : List Frame} {meth : Method} {c : Code} {Q : State → Prop} {G : va_G} {Y : Nat → ClassId} {tF : Nat} {A : Nat → Prop} (h_t : Nat) (B_t : Nat → Nat) (t_named : Int32) (t_names : Nat → Int32) (t_twins : Nat → Int32) (x1 : Int32) (x2 : Int32) {K : Int32 → Prop} (hx : p.tables.exec = Jvm.exec) (hb : c.code = cX4_hasOpenTwin) (hml : c.maxLocals = 4) (hown : s.vm.findClass RX4 = some m.cls) (hts : ∀ w ∈ wsX4_hasOpenTwin, w.before args s = true) (hK : va_K G vwCl (tyL Y) s) (hE : Ev A tF s) (hA : ∀ q, s.heap.size ≤ q → A q) (hRf : 0 ≤ R.frames) (hRl : 0 ≤ R.locals) (hret : ∀ (r : Int32)  (H : Heap) (locs : List Loc) (ls : Array Slot) (pc : Nat), va_P G vwCl (w_X4_hasOpenTwin Y h_t B_t t_named t_names t_twins) H → va_D A (w_X4_hasOpenTwin Y h_t B_t t_named t_names t_twins) → va_S A s.heap H locs → zb r → K r → decode cX4_hasOpenTwin pc = .ok (.ireturn, 1) → W p l e R s m args below meth c H locs 0 0 Q (F0 m pc ls [.int r])) (hP : va_P G vwCl (w_X4_hasOpenTwin Y h_t B_t t_named t_names t_twins) s.heap) (hD : va_D A (w_X4_hasOpenTwin Y h_t B_t t_named t_names t_twins)) (h : pX4_hasOpenTwin t_names t_twins x1 x2 K) : W p l e R s m args below meth c s.heap [] 0 0 Q (entryFrame m ([.ref h_t, .int x1, .int x2] : List Value).toArray 4) := by
  have inX4 : ∀ w ∈ u_ws RX4 TX4 6, w ∈ wsX4_hasOpenTwin := by decide +kernel
  have hf24 := hts (.fieldLink RX4 24 "RackBench$Namer" "names" "[I") (by decide +kernel)
  have hf27 := hts (.fieldLink RX4 27 "RackBench$Namer" "twins" "[I") (by decide +kernel)
  have hl := lv_entry ([.ref h_t, .int x1, .int x2]) (n := 4) (Nat.le_of_ble_eq_true rfl)
  rw [lg_entry_eq]
  generalize (lg_sl ([.ref h_t, .int x1, .int x2]) ++ List.replicate (4 - (lg_sl ([.ref h_t, .int x1, .int x2])).length) Slot.unset).toArray = ls at hl ⊢
  have hl : lv_has ls 4 [(0, .ref h_t), (1, .int x1), (2, .int x2)] := hl
  generalize hH0 : s.heap = H at hP ⊢
  have hS : va_S A s.heap H [] := by rw [← hH0]; exact va_S.rf
  clear hH0
  generalize ([] : List Loc) = locs at hS ⊢
  refine lv_iconst (v := 0) hx hb dX4_hasOpenTwin_0 (by decide) ?_
  refine lv_istore_n (lv' := [(3, .int (0 : Int32)), (0, .ref h_t), (1, .int x1), (2, .int x2)]) hx hb dX4_hasOpenTwin_1 rfl hl (by decide) rfl (fun ls hl => ?_)
  obtain ⟨I2, m2, hI2, hB2⟩ := h
  have L2 : ∀ (x1 : Int32) (x2 : Int32) (I2 : Int32 → Prop) (m2 : Int32 → Nat), (∀ (x3 : Int32), I2 x3 → pX4_hasOpenTwin_2 t_names t_twins K x1 x2 x3 (fun x3' => I2 x3' ∧ m2 x3' < m2 x3)) → ∀ (n : Nat) (x3 : Int32) (H : Heap) (locs : List Loc) (ls : Array Slot), I2 x3 → m2 x3 < n → va_P G vwCl (w_X4_hasOpenTwin Y h_t B_t t_named t_names t_twins) H → va_D A (w_X4_hasOpenTwin Y h_t B_t t_named t_names t_twins) → va_S A s.heap H locs → lv_has ls 4 [(0, .ref h_t), (1, .int x1), (2, .int x2), (3, .int x3)] → W p l e R s m args below meth c H locs 0 0 Q (F0 m 2 ls []) := by
    intro x1 x2 I2 m2 hB2 n
    induction n with
    | zero => intro x3 H locs ls _ hm; exact absurd hm (Nat.not_lt_zero _)
    | succ n ih =>
      intro x3 H locs ls hI hm hP hD hS hl
      obtain ⟨R2, h, rec2⟩ : ∃ R2 : Int32 → Prop, pX4_hasOpenTwin_2 t_names t_twins K x1 x2 x3 R2 ∧ ∀ (x3 : Int32) (H : Heap) (locs : List Loc) (ls : Array Slot), R2 x3 → va_P G vwCl (w_X4_hasOpenTwin Y h_t B_t t_named t_names t_twins) H → va_D A (w_X4_hasOpenTwin Y h_t B_t t_named t_names t_twins) → va_S A s.heap H locs → lv_has ls 4 [(0, .ref h_t), (1, .int x1), (2, .int x2), (3, .int x3)] → W p l e R s m args below meth c H locs 0 0 Q (F0 m 2 ls []) := ⟨_, hB2 x3 hI, fun x3 H locs ls hh hP hD hS hl => ih x3 H locs ls hh.1 (Nat.lt_of_lt_of_le hh.2 (Nat.le_of_lt_succ hm)) hP hD hS hl⟩
      refine lv_iload_n hx hb dX4_hasOpenTwin_2 rfl (lv_at hl 3 rfl) ?_
      refine lv_iload_n hx hb dX4_hasOpenTwin_3 rfl (lv_at hl 2 rfl) ?_
      obtain ⟨ht, hf⟩ := h
      refine lv_icmp_ge (tgt := 44) hx hb dX4_hasOpenTwin_4 (by decide) (fun c9 => ?_) (fun c9 => ?_)
      · have h := ht c9
        refine lv_iconst (v := 0) hx hb dX4_hasOpenTwin_44 (by decide) ?_
        obtain ⟨hz, h⟩ := h
        exact hret (0 : Int32)  H locs ls _ hP hD hS hz h dX4_hasOpenTwin_45
      · have h := hf c9
        refine lv_iload_n hx hb dX4_hasOpenTwin_7 rfl (lv_at hl 3 rfl) ?_
        refine lv_iload_n hx hb dX4_hasOpenTwin_8 rfl (lv_at hl 1 rfl) ?_
        obtain ⟨ht, hf⟩ := h
        refine lv_icmp_ge (tgt := 44) hx hb dX4_hasOpenTwin_9 (by decide) (fun c9 => ?_) (fun c9 => ?_)
        · have h := ht c9
          refine lv_iconst (v := 0) hx hb dX4_hasOpenTwin_44 (by decide) ?_
          obtain ⟨hz, h⟩ := h
          exact hret (0 : Int32)  H locs ls _ hP hD hS hz h dX4_hasOpenTwin_45
        · have h := hf c9
          refine lv_aload_n hx hb dX4_hasOpenTwin_12 rfl (lv_at hl 0 rfl) ?_
          refine va_get (D := G) (ci := 4) (v := .ref (B_t 3)) (C := RX4) (T := TX4) (N := 6) hx hb hts inX4 hown hK hP 0 rfl rfl 3 (by decide) hf27 (fun _ h9 => h9) rfl dX4_hasOpenTwin_13 ?_
          refine lv_iload_n hx hb dX4_hasOpenTwin_16 rfl (lv_at hl 2 rfl) ?_
          obtain ⟨hin, h⟩ := h
          refine va_iald hx hb hK hP 2 0 rfl rfl hin dX4_hasOpenTwin_17 ?_
          refine lv_iload_n hx hb dX4_hasOpenTwin_18 rfl (lv_at hl 3 rfl) ?_
          refine lv_ishr hx hb dX4_hasOpenTwin_19 ?_
          refine lv_iconst (v := 1) hx hb dX4_hasOpenTwin_20 (by decide) ?_
          refine lv_iand hx hb dX4_hasOpenTwin_21 ?_
          refine lv_iconst (v := 1) hx hb dX4_hasOpenTwin_22 (by decide) ?_
          obtain ⟨ht, hf⟩ := h
          refine lv_icmp_ne (tgt := 38) hx hb dX4_hasOpenTwin_23 (by decide) (fun c9 => ?_) (fun c9 => ?_)
          · have h := ht c9
            refine lv_iinc (v := (x3 + 1)) (lv' := [(3, .int (x3 + 1)), (0, .ref h_t), (1, .int x1), (2, .int x2)]) hx hb dX4_hasOpenTwin_38 hl (k := 3) rfl rfl (by decide) rfl (fun ls hl => ?_)
            refine lv_goto (tgt := 2) hx hb dX4_hasOpenTwin_41 (by decide) ?_
            exact rec2 (x3 + 1) H locs ls h hP hD hS (lv_sub hl [1, 2, 3, 0] rfl)
          · have h := hf c9
            refine lv_aload_n hx hb dX4_hasOpenTwin_26 rfl (lv_at hl 0 rfl) ?_
            refine va_get (D := G) (ci := 4) (v := .ref (B_t 2)) (C := RX4) (T := TX4) (N := 6) hx hb hts inX4 hown hK hP 0 rfl rfl 2 (by decide) hf24 (fun _ h9 => h9) rfl dX4_hasOpenTwin_27 ?_
            refine lv_iload_n hx hb dX4_hasOpenTwin_30 rfl (lv_at hl 3 rfl) ?_
            obtain ⟨hin, h⟩ := h
            refine va_iald hx hb hK hP 1 0 rfl rfl hin dX4_hasOpenTwin_31 ?_
            refine lv_iconst (v := -1) hx hb dX4_hasOpenTwin_32 (by decide) ?_
            obtain ⟨ht, hf⟩ := h
            refine lv_icmp_ne (tgt := 38) hx hb dX4_hasOpenTwin_33 (by decide) (fun c9 => ?_) (fun c9 => ?_)
            · have h := ht c9
              refine lv_iinc (v := (x3 + 1)) (lv' := [(3, .int (x3 + 1)), (0, .ref h_t), (1, .int x1), (2, .int x2)]) hx hb dX4_hasOpenTwin_38 hl (k := 3) rfl rfl (by decide) rfl (fun ls hl => ?_)
              refine lv_goto (tgt := 2) hx hb dX4_hasOpenTwin_41 (by decide) ?_
              exact rec2 (x3 + 1) H locs ls h hP hD hS (lv_sub hl [1, 2, 3, 0] rfl)
            · have h := hf c9
              refine lv_iconst (v := 1) hx hb dX4_hasOpenTwin_36 (by decide) ?_
              obtain ⟨hz, h⟩ := h
              exact hret (1 : Int32)  H locs ls _ hP hD hS hz h dX4_hasOpenTwin_37
  exact L2 x1 x2 I2 m2 hB2 _ (0 : Int32) H locs ls hI2 (Nat.lt_succ_self _) hP hD hS (lv_sub hl [1, 2, 3, 0] rfl)

set_option maxHeartbeats 4000000 in
set_option maxRecDepth 100000 in
theorem c_X4_hasOpenTwin (l : Launch) (G : va_G) (Y : Nat → ClassId) (tF sz : Nat) (h_t : Nat) (B_t : Nat → Nat) (t_named : Int32) (t_names : Nat → Int32) (t_twins : Nat → Int32) (x1 : Int32) (x2 : Int32) {K : Int32 → Prop} (h : pX4_hasOpenTwin t_names t_twins x1 x2 K) : Met l yX4_hasOpenTwin wsX4_hasOpenTwin ({ frames := 0, cells := 0, slots := 0, locals := 0 }) (PcM G Y tF sz (w_X4_hasOpenTwin Y h_t B_t t_named t_names t_twins) [.ref h_t, .int x1, .int x2]) (va_Qi (fun (r : Int32) (u : Unit) => K r ) (fun u t => BM G Y (va_A (w_X4_hasOpenTwin Y h_t B_t t_named t_names t_twins) sz) (w_X4_hasOpenTwin Y h_t B_t t_named t_names t_twins) t) (va_A (w_X4_hasOpenTwin Y h_t B_t t_named t_names t_twins) sz)) 0 0 (va_A (w_X4_hasOpenTwin Y h_t B_t t_named t_names t_twins) sz) := by
  refine Met.ofW (cc := cX4_hasOpenTwin) (maxL := 4) (ret := (some .boolean)) (by decide +kernel) rfl ?_
  intro p e s m args below meth c s₁ B hml hv
  obtain ⟨rfl, hsz, hP, hK, hD0, hE⟩ := hv
  have hts := atoms_spec (ws := wsX4_hasOpenTwin) B.pre
  have hown : s.vm.findClass RX4 = some m.cls := findClass_of_methodNamed B.named
  have hlocks := B.notSynchronized
  subst hsz
  have hD := hD0.self (sz := s.heap.size)
  exact wk_X4_hasOpenTwin h_t B_t t_named t_names t_twins x1 x2 B.exec B.bytes hml hown hts hK hE (fun q h => Or.inr h) (Nat.le_refl _) (Nat.le_refl _) (fun r  H locs ls pc hP hD hS hz hk hd => W.zret (v := r) B.exec B.bytes B.returns hz.n (fun t ht hW => ⟨⟨r, (), rfl, hk, by rw [ht]; exact hP, va_K.moved hW.alike hK, hD⟩, hS.F ht⟩) hS.2.2 hd) hP hD h

set_option maxHeartbeats 4000000 in
set_option maxRecDepth 100000 in
theorem wk_X4_nameColumn {p : Program} {l : Launch} {e : Env} {R : Room} {s : State} {m : MethodId} {args : Array Value} {below : List Frame} {meth : Method} {c : Code} {Q : State → Prop} {G : va_G} {Y : Nat → ClassId} {tF : Nat} {A : Nat → Prop} (h_t : Nat) (h_p1 : Nat) (B_t : Nat → Nat) (B_t_best : Nat → Nat) (B_p1 : Nat → Nat) (t_named : Int32) (t_best_n : Int32) (t_best_cells : Nat → Int32) (t_firstRow : Nat → Int32) (t_names : Nat → Int32) (t_things : Nat → Int32) (t_twins : Nat → Int32) (p1_n : Int32) (p1_cells : Nat → Int32) (x2 : Int32) {rec : Int32 → (Nat → Int32) → (Nat → Int32) → (Nat → Int32) → (Nat → Int32) → (Nat → Int32) → Int32 → (Nat → Int32) → Int32 → (Int32 → (Nat → Int32) → (Nat → Int32) → (Nat → Int32) → (Nat → Int32) → Prop) → Prop} {fB lB : Nat} (hRcF : fB + 1 ≤ R.frames) (hRcL : 8 + (5 + 11) + lB ≤ R.locals) (hrec : ∀ (sz : Nat) (h_t : Nat) (h_p1 : Nat) (B_t : Nat → Nat) (B_t_best : Nat → Nat) (B_p1 : Nat → Nat) (t_named : Int32) (t_best_n : Int32) (t_best_cells : Nat → Int32) (t_firstRow : Nat → Int32) (t_names : Nat → Int32) (t_things : Nat → Int32) (t_twins : Nat → Int32) (p1_n : Int32) (p1_cells : Nat → Int32) (x2 : Int32) {K : Int32 → (Nat → Int32) → (Nat → Int32) → (Nat → Int32) → (Nat → Int32) → Prop}, rec t_named t_best_cells t_firstRow t_names t_things t_twins p1_n p1_cells x2 K → Met l yX4_goThrough wsX4_goThrough ({ frames := fB, cells := 0, slots := 0, locals := lB }) (PcM G Y tF sz (w_X4_goThrough Y h_t h_p1 B_t B_t_best B_p1 t_named t_best_n t_best_cells t_firstRow t_names t_things t_twins p1_n p1_cells) [.ref h_t, .ref h_p1, .int x2]) (va_Qv (fun u : Int32 × (Nat → Int32) × (Nat → Int32) × (Nat → Int32) × (Nat → Int32) => K u.1 u.2.1 u.2.2.1 u.2.2.2.1 u.2.2.2.2) (fun u t => BM G Y (va_A (w_X4_goThrough Y h_t h_p1 B_t B_t_best B_p1 t_named t_best_n t_best_cells t_firstRow t_names t_things t_twins p1_n p1_cells) sz) (w_X4_goThrough Y h_t h_p1 B_t B_t_best B_p1 u.1 t_best_n u.2.1 u.2.2.1 u.2.2.2.1 u.2.2.2.2 t_twins p1_n p1_cells) t) (va_A (w_X4_goThrough Y h_t h_p1 B_t B_t_best B_p1 t_named t_best_n t_best_cells t_firstRow t_names t_things t_twins p1_n p1_cells) sz)) 0 0 (va_A (w_X4_goThrough Y h_t h_p1 B_t B_t_best B_p1 t_named t_best_n t_best_cells t_firstRow t_names t_things t_twins p1_n p1_cells) sz)) {K : Int32 → (Nat → Int32) → (Nat → Int32) → (Nat → Int32) → (Nat → Int32) → Prop} (hx : p.tables.exec = Jvm.exec) (hb : c.code = cX4_nameColumn) (hml : c.maxLocals = 4) (hown : s.vm.findClass RX4 = some m.cls) (hts : ∀ w ∈ wsX4_nameColumn, w.before args s = true) (hK : va_K G vwCl (tyL Y) s) (hE : Ev A tF s) (hA : ∀ q, s.heap.size ≤ q → A q) (hRf : 2 ≤ R.frames) (hRl : 46 ≤ R.locals) (hret : ∀ (t_named : Int32) (t_best_cells : Nat → Int32) (t_firstRow : Nat → Int32) (t_names : Nat → Int32) (t_things : Nat → Int32) (H : Heap) (locs : List Loc) (ls : Array Slot) (pc : Nat), va_P G vwCl (w_X4_nameColumn Y h_t h_p1 B_t B_t_best B_p1 t_named t_best_n t_best_cells t_firstRow t_names t_things t_twins p1_n p1_cells) H → va_D A (w_X4_nameColumn Y h_t h_p1 B_t B_t_best B_p1 t_named t_best_n t_best_cells t_firstRow t_names t_things t_twins p1_n p1_cells) → va_S A s.heap H locs → K t_named t_best_cells t_firstRow t_names t_things → decode cX4_nameColumn pc = .ok (.return_, 1) → W p l e R s m args below meth c H locs 0 0 Q (F0 m pc ls [])) (hP : va_P G vwCl (w_X4_nameColumn Y h_t h_p1 B_t B_t_best B_p1 t_named t_best_n t_best_cells t_firstRow t_names t_things t_twins p1_n p1_cells) s.heap) (hD : va_D A (w_X4_nameColumn Y h_t h_p1 B_t B_t_best B_p1 t_named t_best_n t_best_cells t_firstRow t_names t_things t_twins p1_n p1_cells)) (h : pX4_nameColumn_b rec t_named t_best_cells t_firstRow t_names t_things t_twins p1_n p1_cells x2 K) : W p l e R s m args below meth c s.heap [] 0 0 Q (entryFrame m ([.ref h_t, .ref h_p1, .int x2] : List Value).toArray 4) := by
  have inX4 : ∀ w ∈ u_ws RX4 TX4 6, w ∈ wsX4_nameColumn := by decide +kernel
  have inX7 : ∀ w ∈ u_ws RX7 TX7 2, w ∈ wsX4_nameColumn := by decide +kernel
  have hf24 := hts (.fieldLink RX4 24 "RackBench$Namer" "names" "[I") (by decide +kernel)
  have hf33 := hts (.fieldLink RX4 33 "RackBench$Namer" "named" "I") (by decide +kernel)
  have hl := lv_entry ([.ref h_t, .ref h_p1, .int x2]) (n := 4) (Nat.le_of_ble_eq_true rfl)
  rw [lg_entry_eq]
  generalize (lg_sl ([.ref h_t, .ref h_p1, .int x2]) ++ List.replicate (4 - (lg_sl ([.ref h_t, .ref h_p1, .int x2])).length) Slot.unset).toArray = ls at hl ⊢
  have hl : lv_has ls 4 [(0, .ref h_t), (1, .ref h_p1), (2, .int x2)] := hl
  generalize hH0 : s.heap = H at hP ⊢
  have hS : va_S A s.heap H [] := by rw [← hH0]; exact va_S.rf
  clear hH0
  generalize ([] : List Loc) = locs at hS ⊢
  refine lv_iload_n hx hb dX4_nameColumn_0 rfl (lv_at hl 2 rfl) ?_
  refine lv_aload_n hx hb dX4_nameColumn_1 rfl (lv_at hl 1 rfl) ?_
  refine va_getN (D := G) (ci := 6) (v := .int p1_n) (C := RX7) (T := TX7) (N := 2) hx hb hts inX7 hown hK hP 7 rfl rfl 1 (by decide) (hE.nest args 10 _ rfl) (fun _ h9 => h9) rfl dX4_nameColumn_2 ?_
  obtain ⟨ht, hf⟩ := h
  refine lv_icmp_lt (tgt := 22) hx hb dX4_nameColumn_5 (by decide) (fun c9 => ?_) (fun c9 => ?_)
  · have h := ht c9
    refine lv_aload_n hx hb dX4_nameColumn_22 rfl (lv_at hl 0 rfl) ?_
    refine va_get (D := G) (ci := 4) (v := .int t_named) (C := RX4) (T := TX4) (N := 6) hx hb hts inX4 hown hK hP 0 rfl rfl 5 (by decide) hf33 (fun _ h9 => h9) rfl dX4_nameColumn_23 ?_
    refine lv_iload_n hx hb dX4_nameColumn_26 rfl (lv_at hl 2 rfl) ?_
    obtain ⟨ht, hf⟩ := h
    refine lv_icmp_le (tgt := 37) hx hb dX4_nameColumn_27 (by decide) (fun c9 => ?_) (fun c9 => ?_)
    · have h := ht c9
      refine lv_iconst (v := 0) hx hb dX4_nameColumn_37 (by decide) ?_
      refine lv_istore_n (lv' := [(3, .int (0 : Int32)), (0, .ref h_t), (1, .ref h_p1), (2, .int x2)]) hx hb dX4_nameColumn_38 rfl hl (by decide) rfl (fun ls hl => ?_)
      obtain ⟨I39, m39, hI39, hB39⟩ := h
      have L39 : ∀ (x2 : Int32) (I39 : Int32 → Int32 → (Nat → Int32) → (Nat → Int32) → (Nat → Int32) → (Nat → Int32) → Prop) (m39 : Int32 → Int32 → (Nat → Int32) → (Nat → Int32) → (Nat → Int32) → (Nat → Int32) → Nat), (∀ (x3 : Int32) (t_named : Int32) (t_best_cells : Nat → Int32) (t_firstRow : Nat → Int32) (t_names : Nat → Int32) (t_things : Nat → Int32), I39 x3 t_named t_best_cells t_firstRow t_names t_things → pX4_nameColumn_39 t_twins p1_n p1_cells rec K x2 x3 t_named t_best_cells t_firstRow t_names t_things (fun x3' t_named' t_best_cells' t_firstRow' t_names' t_things' => I39 x3' t_named' t_best_cells' t_firstRow' t_names' t_things' ∧ m39 x3' t_named' t_best_cells' t_firstRow' t_names' t_things' < m39 x3 t_named t_best_cells t_firstRow t_names t_things)) → ∀ (n : Nat) (x3 : Int32) (t_named : Int32) (t_best_cells : Nat → Int32) (t_firstRow : Nat → Int32) (t_names : Nat → Int32) (t_things : Nat → Int32) (H : Heap) (locs : List Loc) (ls : Array Slot), I39 x3 t_named t_best_cells t_firstRow t_names t_things → m39 x3 t_named t_best_cells t_firstRow t_names t_things < n → va_P G vwCl (w_X4_nameColumn Y h_t h_p1 B_t B_t_best B_p1 t_named t_best_n t_best_cells t_firstRow t_names t_things t_twins p1_n p1_cells) H → va_D A (w_X4_nameColumn Y h_t h_p1 B_t B_t_best B_p1 t_named t_best_n t_best_cells t_firstRow t_names t_things t_twins p1_n p1_cells) → va_S A s.heap H locs → lv_has ls 4 [(0, .ref h_t), (1, .ref h_p1), (2, .int x2), (3, .int x3)] → W p l e R s m args below meth c H locs 0 0 Q (F0 m 39 ls []) := by
        intro x2 I39 m39 hB39 n
        induction n with
        | zero => intro x3 t_named t_best_cells t_firstRow t_names t_things H locs ls _ hm; exact absurd hm (Nat.not_lt_zero _)
        | succ n ih =>
          intro x3 t_named t_best_cells t_firstRow t_names t_things H locs ls hI hm hP hD hS hl
          obtain ⟨R39, h, rec39⟩ : ∃ R39 : Int32 → Int32 → (Nat → Int32) → (Nat → Int32) → (Nat → Int32) → (Nat → Int32) → Prop, pX4_nameColumn_39 t_twins p1_n p1_cells rec K x2 x3 t_named t_best_cells t_firstRow t_names t_things R39 ∧ ∀ (x3 : Int32) (t_named : Int32) (t_best_cells : Nat → Int32) (t_firstRow : Nat → Int32) (t_names : Nat → Int32) (t_things : Nat → Int32) (H : Heap) (locs : List Loc) (ls : Array Slot), R39 x3 t_named t_best_cells t_firstRow t_names t_things → va_P G vwCl (w_X4_nameColumn Y h_t h_p1 B_t B_t_best B_p1 t_named t_best_n t_best_cells t_firstRow t_names t_things t_twins p1_n p1_cells) H → va_D A (w_X4_nameColumn Y h_t h_p1 B_t B_t_best B_p1 t_named t_best_n t_best_cells t_firstRow t_names t_things t_twins p1_n p1_cells) → va_S A s.heap H locs → lv_has ls 4 [(0, .ref h_t), (1, .ref h_p1), (2, .int x2), (3, .int x3)] → W p l e R s m args below meth c H locs 0 0 Q (F0 m 39 ls []) := ⟨_, hB39 x3 t_named t_best_cells t_firstRow t_names t_things hI, fun x3 t_named t_best_cells t_firstRow t_names t_things H locs ls hh hP hD hS hl => ih x3 t_named t_best_cells t_firstRow t_names t_things H locs ls hh.1 (Nat.lt_of_lt_of_le hh.2 (Nat.le_of_lt_succ hm)) hP hD hS hl⟩
          refine lv_iload_n hx hb dX4_nameColumn_39 rfl (lv_at hl 3 rfl) ?_
          refine lv_aload_n hx hb dX4_nameColumn_40 rfl (lv_at hl 1 rfl) ?_
          refine va_getN (D := G) (ci := 6) (v := .int p1_n) (C := RX7) (T := TX7) (N := 2) hx hb hts inX7 hown hK hP 7 rfl rfl 1 (by decide) (hE.nest args 10 _ rfl) (fun _ h9 => h9) rfl dX4_nameColumn_41 ?_
          obtain ⟨ht, hf⟩ := h
          refine lv_icmp_ge (tgt := 91) hx hb dX4_nameColumn_44 (by decide) (fun c9 => ?_) (fun c9 => ?_)
          · have h := ht c9
            exact hret t_named t_best_cells t_firstRow t_names t_things H locs ls _ hP hD hS h dX4_nameColumn_91
          · have h := hf c9
            refine lv_aload_n hx hb dX4_nameColumn_47 rfl (lv_at hl 0 rfl) ?_
            refine va_get (D := G) (ci := 4) (v := .ref (B_t 2)) (C := RX4) (T := TX4) (N := 6) hx hb hts inX4 hown hK hP 0 rfl rfl 2 (by decide) hf24 (fun _ h9 => h9) rfl dX4_nameColumn_48 ?_
            refine lv_iload_n hx hb dX4_nameColumn_51 rfl (lv_at hl 3 rfl) ?_
            obtain ⟨hin, h⟩ := h
            refine va_iald hx hb hK hP 4 0 rfl rfl hin dX4_nameColumn_52 ?_
            refine lv_iconst (v := -1) hx hb dX4_nameColumn_53 (by decide) ?_
            obtain ⟨ht, hf⟩ := h
            refine lv_icmp_ne (tgt := 85) hx hb dX4_nameColumn_54 (by decide) (fun c9 => ?_) (fun c9 => ?_)
            · have h := ht c9
              refine lv_iinc (v := (x3 + 1)) (lv' := [(3, .int (x3 + 1)), (0, .ref h_t), (1, .ref h_p1), (2, .int x2)]) hx hb dX4_nameColumn_85 hl (k := 3) rfl rfl (by decide) rfl (fun ls hl => ?_)
              refine lv_goto (tgt := 39) hx hb dX4_nameColumn_88 (by decide) ?_
              exact rec39 (x3 + 1) t_named t_best_cells t_firstRow t_names t_things H locs ls h hP hD hS (lv_sub hl [1, 2, 3, 0] rfl)
            · have h := hf c9
              refine lv_aload_n hx hb dX4_nameColumn_57 rfl (lv_at hl 0 rfl) ?_
              refine lv_aload_n hx hb dX4_nameColumn_58 rfl (lv_at hl 1 rfl) ?_
              refine va_getN (D := G) (ci := 6) (v := .int p1_n) (C := RX7) (T := TX7) (N := 2) hx hb hts inX7 hown hK hP 7 rfl rfl 1 (by decide) (hE.nest args 10 _ rfl) (fun _ h9 => h9) rfl dX4_nameColumn_59 ?_
              refine lv_iload_n hx hb dX4_nameColumn_62 rfl (lv_at hl 3 rfl) ?_
              refine mc_iV ⟨hx, hb, hml, hown, hts⟩ hK hE hA hP hD hS (c_X4_hasOpenTwin l G Y tF H.size h_t B_t t_named t_names t_twins p1_n x3 h) (cwV 2 hts gX4_nameColumn_X4_hasOpenTwin rfl rfl rfl (by decide +kernel) ⟨Nat.le_trans (by decide) hRf, Nat.le_trans (by decide) hRl⟩) (fun u => (w_X4_nameColumn Y h_t h_p1 B_t B_t_best B_p1 t_named t_best_n t_best_cells t_firstRow t_names t_things t_twins p1_n p1_cells)) [0, 4, 6] [1, 2, 3, 5, 7, 8] [6, 0, 1, 2, 7, 3, 8, 4, 5] rfl rfl rfl rfl (by decide) (fun _ => rfl) rfl 0 4 rfl rfl rfl rfl hl.1 rfl (Nat.le_of_ble_eq_true rfl) dX4_nameColumn_63 (fun r63 u H locs h hP hD hS => ?_)
              try dsimp only at h
              have hP : va_P G vwCl (w_X4_nameColumn Y h_t h_p1 B_t B_t_best B_p1 t_named t_best_n t_best_cells t_firstRow t_names t_things t_twins p1_n p1_cells) H := hP
              have hD : va_D A (w_X4_nameColumn Y h_t h_p1 B_t B_t_best B_p1 t_named t_best_n t_best_cells t_firstRow t_names t_things t_twins p1_n p1_cells) := hD
              obtain ⟨ht, hf⟩ := h
              refine lv_if_ne (tgt := 85) hx hb dX4_nameColumn_66 (by decide) (fun c9 => ?_) (fun c9 => ?_)
              · have h := ht c9
                refine lv_iinc (v := (x3 + 1)) (lv' := [(3, .int (x3 + 1)), (0, .ref h_t), (1, .ref h_p1), (2, .int x2)]) hx hb dX4_nameColumn_85 hl (k := 3) rfl rfl (by decide) rfl (fun ls hl => ?_)
                refine lv_goto (tgt := 39) hx hb dX4_nameColumn_88 (by decide) ?_
                exact rec39 (x3 + 1) t_named t_best_cells t_firstRow t_names t_things H locs ls h hP hD hS (lv_sub hl [1, 2, 3, 0] rfl)
              · have h := hf c9
                refine lv_aload_n hx hb dX4_nameColumn_69 rfl (lv_at hl 0 rfl) ?_
                refine lv_iload_n hx hb dX4_nameColumn_70 rfl (lv_at hl 3 rfl) ?_
                refine mc_vV ⟨hx, hb, hml, hown, hts⟩ hK hE hA hP hD hS (c_X4_give l G Y tF H.size h_t B_t t_named t_names t_things x3 h) (cwV 1 hts gX4_nameColumn_X4_give rfl rfl rfl (by decide +kernel) ⟨Nat.le_trans (by decide) hRf, Nat.le_trans (by decide) hRl⟩) (fun u => (w_X4_nameColumn Y h_t h_p1 B_t B_t_best B_p1 u.1 t_best_n t_best_cells t_firstRow u.2.1 u.2.2 t_twins p1_n p1_cells)) [0, 4, 5] [1, 2, 3, 6, 7, 8] [6, 0, 1, 2, 7, 8, 3, 4, 5] rfl rfl rfl rfl (by decide) (fun _ => rfl) rfl 0 4 rfl rfl rfl rfl hl.1 rfl (Nat.le_of_ble_eq_true rfl) dX4_nameColumn_71 (fun u H locs h hP hD hS => ?_)
                obtain ⟨t_named_71, t_names_71, t_things_71⟩ := u
                try dsimp only at h
                have hP : va_P G vwCl (w_X4_nameColumn Y h_t h_p1 B_t B_t_best B_p1 t_named_71 t_best_n t_best_cells t_firstRow t_names_71 t_things_71 t_twins p1_n p1_cells) H := hP
                have hD : va_D A (w_X4_nameColumn Y h_t h_p1 B_t B_t_best B_p1 t_named_71 t_best_n t_best_cells t_firstRow t_names_71 t_things_71 t_twins p1_n p1_cells) := hD
                refine lv_aload_n hx hb dX4_nameColumn_74 rfl (lv_at hl 0 rfl) ?_
                refine lv_aload_n hx hb dX4_nameColumn_75 rfl (lv_at hl 1 rfl) ?_
                refine lv_iload_n hx hb dX4_nameColumn_76 rfl (lv_at hl 2 rfl) ?_
                refine mc_vV ⟨hx, hb, hml, hown, hts⟩ hK hE hA hP hD hS (hrec H.size h_t h_p1 B_t B_t_best B_p1 t_named_71 t_best_n t_best_cells t_firstRow t_names_71 t_things_71 t_twins p1_n p1_cells x2 h) (cwV 2 hts gX4_nameColumn_X4_goThrough rfl rfl rfl (by decide +kernel) ⟨hRcF, hRcL⟩) (fun u => (w_X4_nameColumn Y h_t h_p1 B_t B_t_best B_p1 u.1 t_best_n u.2.1 u.2.2.1 u.2.2.2.1 u.2.2.2.2 t_twins p1_n p1_cells)) [0, 1, 2, 3, 4, 5, 6, 7, 8] [] [0, 1, 2, 3, 4, 5, 6, 7, 8] rfl rfl rfl rfl (by decide) (fun _ => rfl) rfl 0 4 rfl rfl rfl rfl hl.1 rfl (Nat.le_of_ble_eq_true rfl) dX4_nameColumn_77 (fun u H locs h hP hD hS => ?_)
                obtain ⟨t_named_77, t_best_cells_77, t_firstRow_77, t_names_77, t_things_77⟩ := u
                try dsimp only at h
                have hP : va_P G vwCl (w_X4_nameColumn Y h_t h_p1 B_t B_t_best B_p1 t_named_77 t_best_n t_best_cells_77 t_firstRow_77 t_names_77 t_things_77 t_twins p1_n p1_cells) H := hP
                have hD : va_D A (w_X4_nameColumn Y h_t h_p1 B_t B_t_best B_p1 t_named_77 t_best_n t_best_cells_77 t_firstRow_77 t_names_77 t_things_77 t_twins p1_n p1_cells) := hD
                refine lv_aload_n hx hb dX4_nameColumn_80 rfl (lv_at hl 0 rfl) ?_
                refine lv_iload_n hx hb dX4_nameColumn_81 rfl (lv_at hl 3 rfl) ?_
                refine mc_vV ⟨hx, hb, hml, hown, hts⟩ hK hE hA hP hD hS (c_X4_takeBack l G Y tF H.size h_t B_t t_named_77 t_names_77 x3 h) (cwV 1 hts gX4_nameColumn_X4_takeBack rfl rfl rfl (by decide +kernel) ⟨Nat.le_trans (by decide) hRf, Nat.le_trans (by decide) hRl⟩) (fun u => (w_X4_nameColumn Y h_t h_p1 B_t B_t_best B_p1 u.1 t_best_n t_best_cells_77 t_firstRow_77 u.2 t_things_77 t_twins p1_n p1_cells)) [0, 4] [1, 2, 3, 5, 6, 7, 8] [7, 0, 1, 2, 8, 3, 4, 5, 6] rfl rfl rfl rfl (by decide) (fun _ => rfl) rfl 0 4 rfl rfl rfl rfl hl.1 rfl (Nat.le_of_ble_eq_true rfl) dX4_nameColumn_82 (fun u H locs h hP hD hS => ?_)
                obtain ⟨t_named_82, t_names_82⟩ := u
                try dsimp only at h
                have hP : va_P G vwCl (w_X4_nameColumn Y h_t h_p1 B_t B_t_best B_p1 t_named_82 t_best_n t_best_cells_77 t_firstRow_77 t_names_82 t_things_77 t_twins p1_n p1_cells) H := hP
                have hD : va_D A (w_X4_nameColumn Y h_t h_p1 B_t B_t_best B_p1 t_named_82 t_best_n t_best_cells_77 t_firstRow_77 t_names_82 t_things_77 t_twins p1_n p1_cells) := hD
                refine lv_iinc (v := (x3 + 1)) (lv' := [(3, .int (x3 + 1)), (0, .ref h_t), (1, .ref h_p1), (2, .int x2)]) hx hb dX4_nameColumn_85 hl (k := 3) rfl rfl (by decide) rfl (fun ls hl => ?_)
                refine lv_goto (tgt := 39) hx hb dX4_nameColumn_88 (by decide) ?_
                exact rec39 (x3 + 1) t_named_82 t_best_cells_77 t_firstRow_77 t_names_82 t_things_77 H locs ls h hP hD hS (lv_sub hl [1, 2, 3, 0] rfl)
      exact L39 x2 I39 m39 hB39 _ (0 : Int32) t_named t_best_cells t_firstRow t_names t_things H locs ls hI39 (Nat.lt_succ_self _) hP hD hS (lv_sub hl [1, 2, 3, 0] rfl)
    · have h := hf c9
      refine lv_aload_n hx hb dX4_nameColumn_30 rfl (lv_at hl 0 rfl) ?_
      refine lv_aload_n hx hb dX4_nameColumn_31 rfl (lv_at hl 1 rfl) ?_
      refine lv_iload_n hx hb dX4_nameColumn_32 rfl (lv_at hl 2 rfl) ?_
      refine mc_vV ⟨hx, hb, hml, hown, hts⟩ hK hE hA hP hD hS (hrec H.size h_t h_p1 B_t B_t_best B_p1 t_named t_best_n t_best_cells t_firstRow t_names t_things t_twins p1_n p1_cells x2 h) (cwV 2 hts gX4_nameColumn_X4_goThrough rfl rfl rfl (by decide +kernel) ⟨hRcF, hRcL⟩) (fun u => (w_X4_nameColumn Y h_t h_p1 B_t B_t_best B_p1 u.1 t_best_n u.2.1 u.2.2.1 u.2.2.2.1 u.2.2.2.2 t_twins p1_n p1_cells)) [0, 1, 2, 3, 4, 5, 6, 7, 8] [] [0, 1, 2, 3, 4, 5, 6, 7, 8] rfl rfl rfl rfl (by decide) (fun _ => rfl) rfl 0 4 rfl rfl rfl rfl hl.1 rfl (Nat.le_of_ble_eq_true rfl) dX4_nameColumn_33 (fun u H locs h hP hD hS => ?_)
      obtain ⟨t_named_33, t_best_cells_33, t_firstRow_33, t_names_33, t_things_33⟩ := u
      try dsimp only at h
      have hP : va_P G vwCl (w_X4_nameColumn Y h_t h_p1 B_t B_t_best B_p1 t_named_33 t_best_n t_best_cells_33 t_firstRow_33 t_names_33 t_things_33 t_twins p1_n p1_cells) H := hP
      have hD : va_D A (w_X4_nameColumn Y h_t h_p1 B_t B_t_best B_p1 t_named_33 t_best_n t_best_cells_33 t_firstRow_33 t_names_33 t_things_33 t_twins p1_n p1_cells) := hD
      exact hret t_named_33 t_best_cells_33 t_firstRow_33 t_names_33 t_things_33 H locs ls _ hP hD hS h dX4_nameColumn_36
  · have h := hf c9
    refine lv_aload_n hx hb dX4_nameColumn_8 rfl (lv_at hl 0 rfl) ?_
    refine lv_aload_n hx hb dX4_nameColumn_9 rfl (lv_at hl 1 rfl) ?_
    refine mc_iV ⟨hx, hb, hml, hown, hts⟩ hK hE hA hP hD hS (c_X4_isLess l G Y tF H.size h_t h_p1 B_t B_t_best B_p1 t_named t_best_n t_best_cells t_names t_things p1_n p1_cells h) (cwV 1 hts gX4_nameColumn_X4_isLess rfl rfl rfl (by decide +kernel) ⟨Nat.le_trans (by decide) hRf, Nat.le_trans (by decide) hRl⟩) (fun u => (w_X4_nameColumn Y h_t h_p1 B_t B_t_best B_p1 t_named t_best_n t_best_cells t_firstRow t_names t_things t_twins p1_n p1_cells)) [0, 1, 2, 4, 5, 7, 8] [3, 6] [2, 3, 4, 0, 5, 6, 1, 7, 8] rfl rfl rfl rfl (by decide) (fun _ => rfl) rfl 0 4 rfl rfl rfl rfl hl.1 rfl (Nat.le_of_ble_eq_true rfl) dX4_nameColumn_10 (fun r10 u H locs h hP hD hS => ?_)
    try dsimp only at h
    have hP : va_P G vwCl (w_X4_nameColumn Y h_t h_p1 B_t B_t_best B_p1 t_named t_best_n t_best_cells t_firstRow t_names t_things t_twins p1_n p1_cells) H := hP
    have hD : va_D A (w_X4_nameColumn Y h_t h_p1 B_t B_t_best B_p1 t_named t_best_n t_best_cells t_firstRow t_names t_things t_twins p1_n p1_cells) := hD
    obtain ⟨ht, hf⟩ := h
    refine lv_if_eq (tgt := 21) hx hb dX4_nameColumn_13 (by decide) (fun c9 => ?_) (fun c9 => ?_)
    · have h := ht c9
      exact hret t_named t_best_cells t_firstRow t_names t_things H locs ls _ hP hD hS h dX4_nameColumn_21
    · have h := hf c9
      refine lv_aload_n hx hb dX4_nameColumn_16 rfl (lv_at hl 0 rfl) ?_
      refine lv_aload_n hx hb dX4_nameColumn_17 rfl (lv_at hl 1 rfl) ?_
      refine mc_vV ⟨hx, hb, hml, hown, hts⟩ hK hE hA hP hD hS (c_X4_makeBest l G Y tF H.size h_t h_p1 B_t B_t_best B_p1 t_named t_best_n t_best_cells t_names t_things p1_n p1_cells h) (cwV 1 hts gX4_nameColumn_X4_makeBest rfl rfl rfl (by decide +kernel) ⟨Nat.le_trans (by decide) hRf, Nat.le_trans (by decide) hRl⟩) (fun u => (w_X4_nameColumn Y h_t h_p1 B_t B_t_best B_p1 t_named t_best_n u t_firstRow t_names t_things t_twins p1_n p1_cells)) [0, 1, 2, 4, 5, 7, 8] [3, 6] [2, 3, 4, 0, 5, 6, 1, 7, 8] rfl rfl rfl rfl (by decide) (fun _ => rfl) rfl 0 4 rfl rfl rfl rfl hl.1 rfl (Nat.le_of_ble_eq_true rfl) dX4_nameColumn_18 (fun u H locs h hP hD hS => ?_)
      obtain ⟨t_best_cells_18, rfl⟩ : ∃ z, z = u := ⟨_, rfl⟩
      try dsimp only at h
      have hP : va_P G vwCl (w_X4_nameColumn Y h_t h_p1 B_t B_t_best B_p1 t_named t_best_n t_best_cells_18 t_firstRow t_names t_things t_twins p1_n p1_cells) H := hP
      have hD : va_D A (w_X4_nameColumn Y h_t h_p1 B_t B_t_best B_p1 t_named t_best_n t_best_cells_18 t_firstRow t_names t_things t_twins p1_n p1_cells) := hD
      exact hret t_named t_best_cells_18 t_firstRow t_names t_things H locs ls _ hP hD hS h dX4_nameColumn_21

set_option maxHeartbeats 4000000 in
set_option maxRecDepth 100000 in
theorem cs_X4_goThrough (l : Launch) (d : Nat) (G : va_G) (Y : Nat → ClassId) (tF sz : Nat) (h_t : Nat) (h_p1 : Nat) (B_t : Nat → Nat) (B_t_best : Nat → Nat) (B_p1 : Nat → Nat) (t_named : Int32) (t_best_n : Int32) (t_best_cells : Nat → Int32) (t_firstRow : Nat → Int32) (t_names : Nat → Int32) (t_things : Nat → Int32) (t_twins : Nat → Int32) (p1_n : Int32) (p1_cells : Nat → Int32) (x2 : Int32) {K : Int32 → (Nat → Int32) → (Nat → Int32) → (Nat → Int32) → (Nat → Int32) → Prop} (hrec : ∀ (sz : Nat) (h_t : Nat) (h_p1 : Nat) (B_t : Nat → Nat) (B_t_best : Nat → Nat) (B_p1 : Nat → Nat) (t_named : Int32) (t_best_n : Int32) (t_best_cells : Nat → Int32) (t_firstRow : Nat → Int32) (t_names : Nat → Int32) (t_things : Nat → Int32) (t_twins : Nat → Int32) (p1_n : Int32) (p1_cells : Nat → Int32) (x2 : Int32) {K : Int32 → (Nat → Int32) → (Nat → Int32) → (Nat → Int32) → (Nat → Int32) → Prop}, pX4_nameColumn d t_named t_best_cells t_firstRow t_names t_things t_twins p1_n p1_cells x2 K → Met l yX4_nameColumn wsX4_nameColumn ({ frames := (2 + 2 * d), cells := 0, slots := 0, locals := (46 + d * 47) }) (PcM G Y tF sz (w_X4_nameColumn Y h_t h_p1 B_t B_t_best B_p1 t_named t_best_n t_best_cells t_firstRow t_names t_things t_twins p1_n p1_cells) [.ref h_t, .ref h_p1, .int x2]) (va_Qv (fun u : Int32 × (Nat → Int32) × (Nat → Int32) × (Nat → Int32) × (Nat → Int32) => K u.1 u.2.1 u.2.2.1 u.2.2.2.1 u.2.2.2.2) (fun u t => BM G Y (va_A (w_X4_nameColumn Y h_t h_p1 B_t B_t_best B_p1 t_named t_best_n t_best_cells t_firstRow t_names t_things t_twins p1_n p1_cells) sz) (w_X4_nameColumn Y h_t h_p1 B_t B_t_best B_p1 u.1 t_best_n u.2.1 u.2.2.1 u.2.2.2.1 u.2.2.2.2 t_twins p1_n p1_cells) t) (va_A (w_X4_nameColumn Y h_t h_p1 B_t B_t_best B_p1 t_named t_best_n t_best_cells t_firstRow t_names t_things t_twins p1_n p1_cells) sz)) 0 0 (va_A (w_X4_nameColumn Y h_t h_p1 B_t B_t_best B_p1 t_named t_best_n t_best_cells t_firstRow t_names t_things t_twins p1_n p1_cells) sz)) (h : pX4_goThrough d t_named t_best_cells t_firstRow t_names t_things t_twins p1_n p1_cells x2 K) : Met l yX4_goThrough wsX4_goThrough ({ frames := (2 + 2 * d + 1), cells := 0, slots := 0, locals := (46 + d * 47 + 23) }) (PcM G Y tF sz (w_X4_goThrough Y h_t h_p1 B_t B_t_best B_p1 t_named t_best_n t_best_cells t_firstRow t_names t_things t_twins p1_n p1_cells) [.ref h_t, .ref h_p1, .int x2]) (va_Qv (fun u : Int32 × (Nat → Int32) × (Nat → Int32) × (Nat → Int32) × (Nat → Int32) => K u.1 u.2.1 u.2.2.1 u.2.2.2.1 u.2.2.2.2) (fun u t => BM G Y (va_A (w_X4_goThrough Y h_t h_p1 B_t B_t_best B_p1 t_named t_best_n t_best_cells t_firstRow t_names t_things t_twins p1_n p1_cells) sz) (w_X4_goThrough Y h_t h_p1 B_t B_t_best B_p1 u.1 t_best_n u.2.1 u.2.2.1 u.2.2.2.1 u.2.2.2.2 t_twins p1_n p1_cells) t) (va_A (w_X4_goThrough Y h_t h_p1 B_t B_t_best B_p1 t_named t_best_n t_best_cells t_firstRow t_names t_things t_twins p1_n p1_cells) sz)) 0 0 (va_A (w_X4_goThrough Y h_t h_p1 B_t B_t_best B_p1 t_named t_best_n t_best_cells t_firstRow t_names t_things t_twins p1_n p1_cells) sz) := by
  refine Met.ofW (cc := cX4_goThrough) (maxL := 5) (ret := none) (by decide +kernel) rfl ?_
  intro p e s m args below meth c s₁ B hml hv
  obtain ⟨rfl, hsz, hP, hK, hD0, hE⟩ := hv
  have hts := atoms_spec (ws := wsX4_goThrough) B.pre
  have hown : s.vm.findClass RX4 = some m.cls := findClass_of_methodNamed B.named
  have hlocks := B.notSynchronized
  subst hsz
  have hD := hD0.self (sz := s.heap.size)
  exact wk_X4_goThrough h_t h_p1 B_t B_t_best B_p1 t_named t_best_n t_best_cells t_firstRow t_names t_things t_twins p1_n p1_cells x2 (rec := pX4_nameColumn d) (fB := (2 + 2 * d)) (lB := (46 + d * 47)) (by show _ ≤ _; simp only [headSpec]; omega) (by show _ ≤ _; simp only [headSpec]; omega) (fun sz h_t h_p1 B_t B_t_best B_p1 t_named t_best_n t_best_cells t_firstRow t_names t_things t_twins p1_n p1_cells x2 _ hh => hrec sz h_t h_p1 B_t B_t_best B_p1 t_named t_best_n t_best_cells t_firstRow t_names t_things t_twins p1_n p1_cells x2 hh) B.exec B.bytes hml hown hts hK hE (fun q h => Or.inr h) (by show _ ≤ _; simp only [headSpec]; omega) (by show _ ≤ _; simp only [headSpec]; omega) (fun t_named t_best_cells t_firstRow t_names t_things H locs ls pc hP hD hS hk hd => W.vret B.exec B.bytes B.returns (fun t ht hW => ⟨⟨(t_named, t_best_cells, t_firstRow, t_names, t_things), rfl, hk, by rw [ht]; exact hP, va_K.moved hW.alike hK, hD⟩, hS.F ht⟩) hS.2.2 hd) hP hD h

set_option maxHeartbeats 4000000 in
set_option maxRecDepth 100000 in
theorem cs_X4_nameColumn (l : Launch) (d : Nat) (G : va_G) (Y : Nat → ClassId) (tF sz : Nat) (h_t : Nat) (h_p1 : Nat) (B_t : Nat → Nat) (B_t_best : Nat → Nat) (B_p1 : Nat → Nat) (t_named : Int32) (t_best_n : Int32) (t_best_cells : Nat → Int32) (t_firstRow : Nat → Int32) (t_names : Nat → Int32) (t_things : Nat → Int32) (t_twins : Nat → Int32) (p1_n : Int32) (p1_cells : Nat → Int32) (x2 : Int32) {K : Int32 → (Nat → Int32) → (Nat → Int32) → (Nat → Int32) → (Nat → Int32) → Prop} (hrec : ∀ (sz : Nat) (h_t : Nat) (h_p1 : Nat) (B_t : Nat → Nat) (B_t_best : Nat → Nat) (B_p1 : Nat → Nat) (t_named : Int32) (t_best_n : Int32) (t_best_cells : Nat → Int32) (t_firstRow : Nat → Int32) (t_names : Nat → Int32) (t_things : Nat → Int32) (t_twins : Nat → Int32) (p1_n : Int32) (p1_cells : Nat → Int32) (x2 : Int32) {K : Int32 → (Nat → Int32) → (Nat → Int32) → (Nat → Int32) → (Nat → Int32) → Prop}, pX4_goThrough d t_named t_best_cells t_firstRow t_names t_things t_twins p1_n p1_cells x2 K → Met l yX4_goThrough wsX4_goThrough ({ frames := (2 + 2 * d + 1), cells := 0, slots := 0, locals := (46 + d * 47 + 23) }) (PcM G Y tF sz (w_X4_goThrough Y h_t h_p1 B_t B_t_best B_p1 t_named t_best_n t_best_cells t_firstRow t_names t_things t_twins p1_n p1_cells) [.ref h_t, .ref h_p1, .int x2]) (va_Qv (fun u : Int32 × (Nat → Int32) × (Nat → Int32) × (Nat → Int32) × (Nat → Int32) => K u.1 u.2.1 u.2.2.1 u.2.2.2.1 u.2.2.2.2) (fun u t => BM G Y (va_A (w_X4_goThrough Y h_t h_p1 B_t B_t_best B_p1 t_named t_best_n t_best_cells t_firstRow t_names t_things t_twins p1_n p1_cells) sz) (w_X4_goThrough Y h_t h_p1 B_t B_t_best B_p1 u.1 t_best_n u.2.1 u.2.2.1 u.2.2.2.1 u.2.2.2.2 t_twins p1_n p1_cells) t) (va_A (w_X4_goThrough Y h_t h_p1 B_t B_t_best B_p1 t_named t_best_n t_best_cells t_firstRow t_names t_things t_twins p1_n p1_cells) sz)) 0 0 (va_A (w_X4_goThrough Y h_t h_p1 B_t B_t_best B_p1 t_named t_best_n t_best_cells t_firstRow t_names t_things t_twins p1_n p1_cells) sz)) (h : pX4_nameColumn (d + 1) t_named t_best_cells t_firstRow t_names t_things t_twins p1_n p1_cells x2 K) : Met l yX4_nameColumn wsX4_nameColumn ({ frames := (2 + 2 * (d + 1)), cells := 0, slots := 0, locals := (46 + (d + 1) * 47) }) (PcM G Y tF sz (w_X4_nameColumn Y h_t h_p1 B_t B_t_best B_p1 t_named t_best_n t_best_cells t_firstRow t_names t_things t_twins p1_n p1_cells) [.ref h_t, .ref h_p1, .int x2]) (va_Qv (fun u : Int32 × (Nat → Int32) × (Nat → Int32) × (Nat → Int32) × (Nat → Int32) => K u.1 u.2.1 u.2.2.1 u.2.2.2.1 u.2.2.2.2) (fun u t => BM G Y (va_A (w_X4_nameColumn Y h_t h_p1 B_t B_t_best B_p1 t_named t_best_n t_best_cells t_firstRow t_names t_things t_twins p1_n p1_cells) sz) (w_X4_nameColumn Y h_t h_p1 B_t B_t_best B_p1 u.1 t_best_n u.2.1 u.2.2.1 u.2.2.2.1 u.2.2.2.2 t_twins p1_n p1_cells) t) (va_A (w_X4_nameColumn Y h_t h_p1 B_t B_t_best B_p1 t_named t_best_n t_best_cells t_firstRow t_names t_things t_twins p1_n p1_cells) sz)) 0 0 (va_A (w_X4_nameColumn Y h_t h_p1 B_t B_t_best B_p1 t_named t_best_n t_best_cells t_firstRow t_names t_things t_twins p1_n p1_cells) sz) := by
  refine Met.ofW (cc := cX4_nameColumn) (maxL := 4) (ret := none) (by decide +kernel) rfl ?_
  intro p e s m args below meth c s₁ B hml hv
  obtain ⟨rfl, hsz, hP, hK, hD0, hE⟩ := hv
  have hts := atoms_spec (ws := wsX4_nameColumn) B.pre
  have hown : s.vm.findClass RX4 = some m.cls := findClass_of_methodNamed B.named
  have hlocks := B.notSynchronized
  subst hsz
  have hD := hD0.self (sz := s.heap.size)
  exact wk_X4_nameColumn h_t h_p1 B_t B_t_best B_p1 t_named t_best_n t_best_cells t_firstRow t_names t_things t_twins p1_n p1_cells x2 (rec := pX4_goThrough d) (fB := (2 + 2 * d + 1)) (lB := (46 + d * 47 + 23)) (by show _ ≤ _; simp only [headSpec]; omega) (by show _ ≤ _; simp only [headSpec]; omega) (fun sz h_t h_p1 B_t B_t_best B_p1 t_named t_best_n t_best_cells t_firstRow t_names t_things t_twins p1_n p1_cells x2 _ hh => hrec sz h_t h_p1 B_t B_t_best B_p1 t_named t_best_n t_best_cells t_firstRow t_names t_things t_twins p1_n p1_cells x2 hh) B.exec B.bytes hml hown hts hK hE (fun q h => Or.inr h) (by show _ ≤ _; simp only [headSpec]; omega) (by show _ ≤ _; simp only [headSpec]; omega) (fun t_named t_best_cells t_firstRow t_names t_things H locs ls pc hP hD hS hk hd => W.vret B.exec B.bytes B.returns (fun t ht hW => ⟨⟨(t_named, t_best_cells, t_firstRow, t_names, t_things), rfl, hk, by rw [ht]; exact hP, va_K.moved hW.alike hK, hD⟩, hS.F ht⟩) hS.2.2 hd) hP hD h

theorem c_X4_nameColumn (d : Nat) (l : Launch) (G : va_G) (Y : Nat → ClassId) (tF sz : Nat) (h_t : Nat) (h_p1 : Nat) (B_t : Nat → Nat) (B_t_best : Nat → Nat) (B_p1 : Nat → Nat) (t_named : Int32) (t_best_n : Int32) (t_best_cells : Nat → Int32) (t_firstRow : Nat → Int32) (t_names : Nat → Int32) (t_things : Nat → Int32) (t_twins : Nat → Int32) (p1_n : Int32) (p1_cells : Nat → Int32) (x2 : Int32) {K : Int32 → (Nat → Int32) → (Nat → Int32) → (Nat → Int32) → (Nat → Int32) → Prop} (h : pX4_nameColumn d t_named t_best_cells t_firstRow t_names t_things t_twins p1_n p1_cells x2 K) : Met l yX4_nameColumn wsX4_nameColumn ({ frames := (2 + 2 * d), cells := 0, slots := 0, locals := (46 + d * 47) }) (PcM G Y tF sz (w_X4_nameColumn Y h_t h_p1 B_t B_t_best B_p1 t_named t_best_n t_best_cells t_firstRow t_names t_things t_twins p1_n p1_cells) [.ref h_t, .ref h_p1, .int x2]) (va_Qv (fun u : Int32 × (Nat → Int32) × (Nat → Int32) × (Nat → Int32) × (Nat → Int32) => K u.1 u.2.1 u.2.2.1 u.2.2.2.1 u.2.2.2.2) (fun u t => BM G Y (va_A (w_X4_nameColumn Y h_t h_p1 B_t B_t_best B_p1 t_named t_best_n t_best_cells t_firstRow t_names t_things t_twins p1_n p1_cells) sz) (w_X4_nameColumn Y h_t h_p1 B_t B_t_best B_p1 u.1 t_best_n u.2.1 u.2.2.1 u.2.2.2.1 u.2.2.2.2 t_twins p1_n p1_cells) t) (va_A (w_X4_nameColumn Y h_t h_p1 B_t B_t_best B_p1 t_named t_best_n t_best_cells t_firstRow t_names t_things t_twins p1_n p1_cells) sz)) 0 0 (va_A (w_X4_nameColumn Y h_t h_p1 B_t B_t_best B_p1 t_named t_best_n t_best_cells t_firstRow t_names t_things t_twins p1_n p1_cells) sz) := by
  induction d generalizing sz h_t h_p1 B_t B_t_best B_p1 t_named t_best_n t_best_cells t_firstRow t_names t_things t_twins p1_n p1_cells x2 K with
  | zero => exact h.elim
  | succ d ih => exact cs_X4_nameColumn l d G Y tF sz h_t h_p1 B_t B_t_best B_p1 t_named t_best_n t_best_cells t_firstRow t_names t_things t_twins p1_n p1_cells x2 (fun sz h_t h_p1 B_t B_t_best B_p1 t_named t_best_n t_best_cells t_firstRow t_names t_things t_twins p1_n p1_cells x2 _ hh => cs_X4_goThrough l d G Y tF sz h_t h_p1 B_t B_t_best B_p1 t_named t_best_n t_best_cells t_firstRow t_names t_things t_twins p1_n p1_cells x2 (fun sz h_t h_p1 B_t B_t_best B_p1 t_named t_best_n t_best_cells t_firstRow t_names t_things t_twins p1_n p1_cells x2 _ hh => ih sz h_t h_p1 B_t B_t_best B_p1 t_named t_best_n t_best_cells t_firstRow t_names t_things t_twins p1_n p1_cells x2 hh) hh) h

theorem c_X4_goThrough (d : Nat) (l : Launch) (G : va_G) (Y : Nat → ClassId) (tF sz : Nat) (h_t : Nat) (h_p1 : Nat) (B_t : Nat → Nat) (B_t_best : Nat → Nat) (B_p1 : Nat → Nat) (t_named : Int32) (t_best_n : Int32) (t_best_cells : Nat → Int32) (t_firstRow : Nat → Int32) (t_names : Nat → Int32) (t_things : Nat → Int32) (t_twins : Nat → Int32) (p1_n : Int32) (p1_cells : Nat → Int32) (x2 : Int32) {K : Int32 → (Nat → Int32) → (Nat → Int32) → (Nat → Int32) → (Nat → Int32) → Prop} (h : pX4_goThrough d t_named t_best_cells t_firstRow t_names t_things t_twins p1_n p1_cells x2 K) : Met l yX4_goThrough wsX4_goThrough ({ frames := (2 + 2 * d + 1), cells := 0, slots := 0, locals := (46 + d * 47 + 23) }) (PcM G Y tF sz (w_X4_goThrough Y h_t h_p1 B_t B_t_best B_p1 t_named t_best_n t_best_cells t_firstRow t_names t_things t_twins p1_n p1_cells) [.ref h_t, .ref h_p1, .int x2]) (va_Qv (fun u : Int32 × (Nat → Int32) × (Nat → Int32) × (Nat → Int32) × (Nat → Int32) => K u.1 u.2.1 u.2.2.1 u.2.2.2.1 u.2.2.2.2) (fun u t => BM G Y (va_A (w_X4_goThrough Y h_t h_p1 B_t B_t_best B_p1 t_named t_best_n t_best_cells t_firstRow t_names t_things t_twins p1_n p1_cells) sz) (w_X4_goThrough Y h_t h_p1 B_t B_t_best B_p1 u.1 t_best_n u.2.1 u.2.2.1 u.2.2.2.1 u.2.2.2.2 t_twins p1_n p1_cells) t) (va_A (w_X4_goThrough Y h_t h_p1 B_t B_t_best B_p1 t_named t_best_n t_best_cells t_firstRow t_names t_things t_twins p1_n p1_cells) sz)) 0 0 (va_A (w_X4_goThrough Y h_t h_p1 B_t B_t_best B_p1 t_named t_best_n t_best_cells t_firstRow t_names t_things t_twins p1_n p1_cells) sz) :=
  cs_X4_goThrough l d G Y tF sz h_t h_p1 B_t B_t_best B_p1 t_named t_best_n t_best_cells t_firstRow t_names t_things t_twins p1_n p1_cells x2 (fun sz h_t h_p1 B_t B_t_best B_p1 t_named t_best_n t_best_cells t_firstRow t_names t_things t_twins p1_n p1_cells x2 _ hh => c_X4_nameColumn d l G Y tF sz h_t h_p1 B_t B_t_best B_p1 t_named t_best_n t_best_cells t_firstRow t_names t_things t_twins p1_n p1_cells x2 hh) h

abbrev w_X4_isBest (Y : Nat → ClassId) (h_t : Nat) (h_p1 : Nat) (B_t : Nat → Nat) (B_t_best : Nat → Nat) (B_p1 : Nat → Nat) (t_named : Int32) (t_best_n : Int32) (t_best_cells : Nat → Int32) (p1_n : Int32) (p1_cells : Nat → Int32) : va_W := [(h_t, .inr (4, [.ref (B_t 0), .ref (B_t 1), .ref (B_t 2), .ref (B_t 3), .ref (B_t 4), .int t_named])), ((B_t 0), .inr (6, [.ref (B_t_best 0), .int t_best_n])), ((B_t_best 0), .inl (Y 0, 64, .inl t_best_cells)), (h_p1, .inr (6, [.ref (B_p1 0), .int p1_n])), ((B_p1 0), .inl (Y 0, 64, .inl p1_cells))]

set_option maxHeartbeats 4000000 in
set_option maxRecDepth 100000 in
theorem wk_X4_isBest {p : Program} {l : Launch} {e : Env} {R : Room} {s : State} {m : MethodId} {args : Array Value} {below : List Frame} {meth : Method} {c : Code} {Q : State → Prop} {G : va_G} {Y : Nat → ClassId} {tF : Nat} {A : Nat → Prop} (h_t : Nat) (h_p1 : Nat) (B_t : Nat → Nat) (B_t_best : Nat → Nat) (B_p1 : Nat → Nat) (t_named : Int32) (t_best_n : Int32) (t_best_cells : Nat → Int32) (p1_n : Int32) (p1_cells : Nat → Int32) {K : Int32 → Prop} (hx : p.tables.exec = Jvm.exec) (hb : c.code = cX4_isBest) (hml : c.maxLocals = 4) (hown : s.vm.findClass RX4 = some m.cls) (hts : ∀ w ∈ wsX4_isBest, w.before args s = true) (hK : va_K G vwCl (tyL Y) s) (hE : Ev A tF s) (hA : ∀ q, s.heap.size ≤ q → A q) (hRf : 1 ≤ R.frames) (hRl : 22 ≤ R.locals) (hret : ∀ (r : Int32)  (H : Heap) (locs : List Loc) (ls : Array Slot) (pc : Nat), va_P G vwCl (w_X4_isBest Y h_t h_p1 B_t B_t_best B_p1 t_named t_best_n t_best_cells p1_n p1_cells) H → va_D A (w_X4_isBest Y h_t h_p1 B_t B_t_best B_p1 t_named t_best_n t_best_cells p1_n p1_cells) → va_S A s.heap H locs → zb r → K r → decode cX4_isBest pc = .ok (.ireturn, 1) → W p l e R s m args below meth c H locs 0 0 Q (F0 m pc ls [.int r])) (hP : va_P G vwCl (w_X4_isBest Y h_t h_p1 B_t B_t_best B_p1 t_named t_best_n t_best_cells p1_n p1_cells) s.heap) (hD : va_D A (w_X4_isBest Y h_t h_p1 B_t B_t_best B_p1 t_named t_best_n t_best_cells p1_n p1_cells)) (h : pX4_isBest t_best_cells p1_n p1_cells K) : W p l e R s m args below meth c s.heap [] 0 0 Q (entryFrame m ([.ref h_t, .ref h_p1] : List Value).toArray 4) := by
  have inX4 : ∀ w ∈ u_ws RX4 TX4 6, w ∈ wsX4_isBest := by decide +kernel
  have inX7 : ∀ w ∈ u_ws RX7 TX7 2, w ∈ wsX4_isBest := by decide +kernel
  have hf14 := hts (.fieldLink RX4 14 "RackBench$Namer" "best" "LRackBench$Table;") (by decide +kernel)
  have hl := lv_entry ([.ref h_t, .ref h_p1]) (n := 4) (Nat.le_of_ble_eq_true rfl)
  rw [lg_entry_eq]
  generalize (lg_sl ([.ref h_t, .ref h_p1]) ++ List.replicate (4 - (lg_sl ([.ref h_t, .ref h_p1])).length) Slot.unset).toArray = ls at hl ⊢
  have hl : lv_has ls 4 [(0, .ref h_t), (1, .ref h_p1)] := hl
  generalize hH0 : s.heap = H at hP ⊢
  have hS : va_S A s.heap H [] := by rw [← hH0]; exact va_S.rf
  clear hH0
  generalize ([] : List Loc) = locs at hS ⊢
  refine lv_iconst (v := 0) hx hb dX4_isBest_0 (by decide) ?_
  refine lv_istore_n (lv' := [(2, .int (0 : Int32)), (0, .ref h_t), (1, .ref h_p1)]) hx hb dX4_isBest_1 rfl hl (by decide) rfl (fun ls hl => ?_)
  obtain ⟨I2, m2, hI2, hB2⟩ := h
  have L2 : ∀  (I2 : Int32 → Prop) (m2 : Int32 → Nat), (∀ (x2 : Int32), I2 x2 → pX4_isBest_2 t_best_cells p1_n p1_cells K x2 (fun x2' => I2 x2' ∧ m2 x2' < m2 x2)) → ∀ (n : Nat) (x2 : Int32) (H : Heap) (locs : List Loc) (ls : Array Slot), I2 x2 → m2 x2 < n → va_P G vwCl (w_X4_isBest Y h_t h_p1 B_t B_t_best B_p1 t_named t_best_n t_best_cells p1_n p1_cells) H → va_D A (w_X4_isBest Y h_t h_p1 B_t B_t_best B_p1 t_named t_best_n t_best_cells p1_n p1_cells) → va_S A s.heap H locs → lv_has ls 4 [(0, .ref h_t), (1, .ref h_p1), (2, .int x2)] → W p l e R s m args below meth c H locs 0 0 Q (F0 m 2 ls []) := by
    intro  I2 m2 hB2 n
    induction n with
    | zero => intro x2 H locs ls _ hm; exact absurd hm (Nat.not_lt_zero _)
    | succ n ih =>
      intro x2 H locs ls hI hm hP hD hS hl
      obtain ⟨R2, h, rec2⟩ : ∃ R2 : Int32 → Prop, pX4_isBest_2 t_best_cells p1_n p1_cells K x2 R2 ∧ ∀ (x2 : Int32) (H : Heap) (locs : List Loc) (ls : Array Slot), R2 x2 → va_P G vwCl (w_X4_isBest Y h_t h_p1 B_t B_t_best B_p1 t_named t_best_n t_best_cells p1_n p1_cells) H → va_D A (w_X4_isBest Y h_t h_p1 B_t B_t_best B_p1 t_named t_best_n t_best_cells p1_n p1_cells) → va_S A s.heap H locs → lv_has ls 4 [(0, .ref h_t), (1, .ref h_p1), (2, .int x2)] → W p l e R s m args below meth c H locs 0 0 Q (F0 m 2 ls []) := ⟨_, hB2 x2 hI, fun x2 H locs ls hh hP hD hS hl => ih x2 H locs ls hh.1 (Nat.lt_of_lt_of_le hh.2 (Nat.le_of_lt_succ hm)) hP hD hS hl⟩
      refine lv_iload_n hx hb dX4_isBest_2 rfl (lv_at hl 2 rfl) ?_
      refine lv_aload_n hx hb dX4_isBest_3 rfl (lv_at hl 1 rfl) ?_
      refine va_getN (D := G) (ci := 6) (v := .int p1_n) (C := RX7) (T := TX7) (N := 2) hx hb hts inX7 hown hK hP 3 rfl rfl 1 (by decide) (hE.nest args 10 _ rfl) (fun _ h9 => h9) rfl dX4_isBest_4 ?_
      obtain ⟨ht, hf⟩ := h
      refine lv_icmp_ge (tgt := 52) hx hb dX4_isBest_7 (by decide) (fun c9 => ?_) (fun c9 => ?_)
      · have h := ht c9
        refine lv_iconst (v := 1) hx hb dX4_isBest_52 (by decide) ?_
        obtain ⟨hz, h⟩ := h
        exact hret (1 : Int32)  H locs ls _ hP hD hS hz h dX4_isBest_53
      · have h := hf c9
        refine lv_iconst (v := 0) hx hb dX4_isBest_10 (by decide) ?_
        refine lv_istore_n (lv' := [(3, .int (0 : Int32)), (0, .ref h_t), (1, .ref h_p1), (2, .int x2)]) hx hb dX4_isBest_11 rfl hl (by decide) rfl (fun ls hl => ?_)
        obtain ⟨I12, m12, hI12, hB12⟩ := h
        have L12 : ∀ (x2 : Int32) (I12 : Int32 → Prop) (m12 : Int32 → Nat), (∀ (x3 : Int32), I12 x3 → pX4_isBest_12 t_best_cells p1_n p1_cells R2 K x2 x3 (fun x3' => I12 x3' ∧ m12 x3' < m12 x3)) → ∀ (n : Nat) (x3 : Int32) (H : Heap) (locs : List Loc) (ls : Array Slot), I12 x3 → m12 x3 < n → va_P G vwCl (w_X4_isBest Y h_t h_p1 B_t B_t_best B_p1 t_named t_best_n t_best_cells p1_n p1_cells) H → va_D A (w_X4_isBest Y h_t h_p1 B_t B_t_best B_p1 t_named t_best_n t_best_cells p1_n p1_cells) → va_S A s.heap H locs → lv_has ls 4 [(0, .ref h_t), (1, .ref h_p1), (2, .int x2), (3, .int x3)] → W p l e R s m args below meth c H locs 0 0 Q (F0 m 12 ls []) := by
          intro x2 I12 m12 hB12 n
          induction n with
          | zero => intro x3 H locs ls _ hm; exact absurd hm (Nat.not_lt_zero _)
          | succ n ih =>
            intro x3 H locs ls hI hm hP hD hS hl
            obtain ⟨R12, h, rec12⟩ : ∃ R12 : Int32 → Prop, pX4_isBest_12 t_best_cells p1_n p1_cells R2 K x2 x3 R12 ∧ ∀ (x3 : Int32) (H : Heap) (locs : List Loc) (ls : Array Slot), R12 x3 → va_P G vwCl (w_X4_isBest Y h_t h_p1 B_t B_t_best B_p1 t_named t_best_n t_best_cells p1_n p1_cells) H → va_D A (w_X4_isBest Y h_t h_p1 B_t B_t_best B_p1 t_named t_best_n t_best_cells p1_n p1_cells) → va_S A s.heap H locs → lv_has ls 4 [(0, .ref h_t), (1, .ref h_p1), (2, .int x2), (3, .int x3)] → W p l e R s m args below meth c H locs 0 0 Q (F0 m 12 ls []) := ⟨_, hB12 x3 hI, fun x3 H locs ls hh hP hD hS hl => ih x3 H locs ls hh.1 (Nat.lt_of_lt_of_le hh.2 (Nat.le_of_lt_succ hm)) hP hD hS hl⟩
            refine lv_iload_n hx hb dX4_isBest_12 rfl (lv_at hl 3 rfl) ?_
            refine lv_aload_n hx hb dX4_isBest_13 rfl (lv_at hl 1 rfl) ?_
            refine va_getN (D := G) (ci := 6) (v := .int p1_n) (C := RX7) (T := TX7) (N := 2) hx hb hts inX7 hown hK hP 3 rfl rfl 1 (by decide) (hE.nest args 10 _ rfl) (fun _ h9 => h9) rfl dX4_isBest_14 ?_
            obtain ⟨ht, hf⟩ := h
            refine lv_icmp_ge (tgt := 46) hx hb dX4_isBest_17 (by decide) (fun c9 => ?_) (fun c9 => ?_)
            · have h := ht c9
              refine lv_iinc (v := (x2 + 1)) (lv' := [(2, .int (x2 + 1)), (0, .ref h_t), (1, .ref h_p1), (3, .int x3)]) hx hb dX4_isBest_46 hl (k := 2) rfl rfl (by decide) rfl (fun ls hl => ?_)
              refine lv_goto (tgt := 2) hx hb dX4_isBest_49 (by decide) ?_
              exact rec2 (x2 + 1) H locs ls h hP hD hS (lv_sub hl [1, 2, 0] rfl)
            · have h := hf c9
              refine lv_aload_n hx hb dX4_isBest_20 rfl (lv_at hl 1 rfl) ?_
              refine lv_iload_n hx hb dX4_isBest_21 rfl (lv_at hl 2 rfl) ?_
              refine lv_iload_n hx hb dX4_isBest_22 rfl (lv_at hl 3 rfl) ?_
              refine mc_iV ⟨hx, hb, hml, hown, hts⟩ hK hE hA hP hD hS (c_X7_turned l G Y tF H.size h_p1 B_p1 p1_n p1_cells x2 x3 h) (cwV 2 hts gX4_isBest_X7_turned rfl rfl rfl (by decide +kernel) ⟨Nat.le_trans (by decide) hRf, Nat.le_trans (by decide) hRl⟩) (fun u => (w_X4_isBest Y h_t h_p1 B_t B_t_best B_p1 t_named t_best_n t_best_cells p1_n p1_cells)) [3, 4] [0, 1, 2] [0, 1, 2, 3, 4] rfl rfl rfl rfl (by decide) (fun _ => rfl) rfl 3 6 rfl rfl rfl rfl hl.1 rfl (Nat.le_of_ble_eq_true rfl) dX4_isBest_23 (fun r23 u H locs h hP hD hS => ?_)
              try dsimp only at h
              have hP : va_P G vwCl (w_X4_isBest Y h_t h_p1 B_t B_t_best B_p1 t_named t_best_n t_best_cells p1_n p1_cells) H := hP
              have hD : va_D A (w_X4_isBest Y h_t h_p1 B_t B_t_best B_p1 t_named t_best_n t_best_cells p1_n p1_cells) := hD
              refine lv_aload_n hx hb dX4_isBest_26 rfl (lv_at hl 0 rfl) ?_
              refine va_get (D := G) (ci := 4) (v := .ref (B_t 0)) (C := RX4) (T := TX4) (N := 6) hx hb hts inX4 hown hK hP 0 rfl rfl 0 (by decide) hf14 (fun _ h9 => h9) rfl dX4_isBest_27 ?_
              refine lv_iload_n hx hb dX4_isBest_30 rfl (lv_at hl 2 rfl) ?_
              refine lv_iload_n hx hb dX4_isBest_31 rfl (lv_at hl 3 rfl) ?_
              refine mc_iV ⟨hx, hb, hml, hown, hts⟩ hK hE hA hP hD hS (c_X7_turned l G Y tF H.size (B_t 0) B_t_best t_best_n t_best_cells x2 x3 h) (cwV 2 hts gX4_isBest_X7_turned rfl rfl rfl (by decide +kernel) ⟨Nat.le_trans (by decide) hRf, Nat.le_trans (by decide) hRl⟩) (fun u => (w_X4_isBest Y h_t h_p1 B_t B_t_best B_p1 t_named t_best_n t_best_cells p1_n p1_cells)) [1, 2] [0, 3, 4] [0, 3, 4, 1, 2] rfl rfl rfl rfl (by decide) (fun _ => rfl) rfl 1 6 rfl rfl rfl rfl hl.1 rfl (Nat.le_of_ble_eq_true rfl) dX4_isBest_32 (fun r32 u H locs h hP hD hS => ?_)
              try dsimp only at h
              have hP : va_P G vwCl (w_X4_isBest Y h_t h_p1 B_t B_t_best B_p1 t_named t_best_n t_best_cells p1_n p1_cells) H := hP
              have hD : va_D A (w_X4_isBest Y h_t h_p1 B_t B_t_best B_p1 t_named t_best_n t_best_cells p1_n p1_cells) := hD
              obtain ⟨ht, hf⟩ := h
              refine lv_icmp_eq (tgt := 40) hx hb dX4_isBest_35 (by decide) (fun c9 => ?_) (fun c9 => ?_)
              · have h := ht c9
                refine lv_iinc (v := (x3 + 1)) (lv' := [(3, .int (x3 + 1)), (0, .ref h_t), (1, .ref h_p1), (2, .int x2)]) hx hb dX4_isBest_40 hl (k := 3) rfl rfl (by decide) rfl (fun ls hl => ?_)
                refine lv_goto (tgt := 12) hx hb dX4_isBest_43 (by decide) ?_
                exact rec12 (x3 + 1) H locs ls h hP hD hS (lv_sub hl [1, 2, 3, 0] rfl)
              · have h := hf c9
                refine lv_iconst (v := 0) hx hb dX4_isBest_38 (by decide) ?_
                obtain ⟨hz, h⟩ := h
                exact hret (0 : Int32)  H locs ls _ hP hD hS hz h dX4_isBest_39
        exact L12 x2 I12 m12 hB12 _ (0 : Int32) H locs ls hI12 (Nat.lt_succ_self _) hP hD hS (lv_sub hl [1, 2, 3, 0] rfl)
  exact L2  I2 m2 hB2 _ (0 : Int32) H locs ls hI2 (Nat.lt_succ_self _) hP hD hS (lv_sub hl [1, 2, 0] rfl)

set_option maxHeartbeats 4000000 in
set_option maxRecDepth 100000 in
theorem c_X4_isBest (l : Launch) (G : va_G) (Y : Nat → ClassId) (tF sz : Nat) (h_t : Nat) (h_p1 : Nat) (B_t : Nat → Nat) (B_t_best : Nat → Nat) (B_p1 : Nat → Nat) (t_named : Int32) (t_best_n : Int32) (t_best_cells : Nat → Int32) (p1_n : Int32) (p1_cells : Nat → Int32) {K : Int32 → Prop} (h : pX4_isBest t_best_cells p1_n p1_cells K) : Met l yX4_isBest wsX4_isBest ({ frames := 1, cells := 0, slots := 0, locals := 22 }) (PcM G Y tF sz (w_X4_isBest Y h_t h_p1 B_t B_t_best B_p1 t_named t_best_n t_best_cells p1_n p1_cells) [.ref h_t, .ref h_p1]) (va_Qi (fun (r : Int32) (u : Unit) => K r ) (fun u t => BM G Y (va_A (w_X4_isBest Y h_t h_p1 B_t B_t_best B_p1 t_named t_best_n t_best_cells p1_n p1_cells) sz) (w_X4_isBest Y h_t h_p1 B_t B_t_best B_p1 t_named t_best_n t_best_cells p1_n p1_cells) t) (va_A (w_X4_isBest Y h_t h_p1 B_t B_t_best B_p1 t_named t_best_n t_best_cells p1_n p1_cells) sz)) 0 0 (va_A (w_X4_isBest Y h_t h_p1 B_t B_t_best B_p1 t_named t_best_n t_best_cells p1_n p1_cells) sz) := by
  refine Met.ofW (cc := cX4_isBest) (maxL := 4) (ret := (some .boolean)) (by decide +kernel) rfl ?_
  intro p e s m args below meth c s₁ B hml hv
  obtain ⟨rfl, hsz, hP, hK, hD0, hE⟩ := hv
  have hts := atoms_spec (ws := wsX4_isBest) B.pre
  have hown : s.vm.findClass RX4 = some m.cls := findClass_of_methodNamed B.named
  have hlocks := B.notSynchronized
  subst hsz
  have hD := hD0.self (sz := s.heap.size)
  exact wk_X4_isBest h_t h_p1 B_t B_t_best B_p1 t_named t_best_n t_best_cells p1_n p1_cells B.exec B.bytes hml hown hts hK hE (fun q h => Or.inr h) (Nat.le_refl _) (Nat.le_refl _) (fun r  H locs ls pc hP hD hS hz hk hd => W.zret (v := r) B.exec B.bytes B.returns hz.n (fun t ht hW => ⟨⟨r, (), rfl, hk, by rw [ht]; exact hP, va_K.moved hW.alike hK, hD⟩, hS.F ht⟩) hS.2.2 hd) hP hD h

abbrev w_X4_lessen (Y : Nat → ClassId) (h_t : Nat) (h_p1 : Nat) (B_t : Nat → Nat) (B_t_best : Nat → Nat) (B_p1 : Nat → Nat) (t_named : Int32) (t_best_n : Int32) (t_best_cells : Nat → Int32) (t_firstRow : Nat → Int32) (t_names : Nat → Int32) (t_things : Nat → Int32) (t_twins : Nat → Int32) (p1_n : Int32) (p1_cells : Nat → Int32) : va_W := [(h_t, .inr (4, [.ref (B_t 0), .ref (B_t 1), .ref (B_t 2), .ref (B_t 3), .ref (B_t 4), .int t_named])), ((B_t 0), .inr (6, [.ref (B_t_best 0), .int t_best_n])), ((B_t_best 0), .inl (Y 0, 64, .inl t_best_cells)), ((B_t 4), .inl (Y 0, 8, .inl t_firstRow)), ((B_t 2), .inl (Y 0, 8, .inl t_names)), ((B_t 1), .inl (Y 0, 8, .inl t_things)), ((B_t 3), .inl (Y 0, 8, .inl t_twins)), (h_p1, .inr (6, [.ref (B_p1 0), .int p1_n])), ((B_p1 0), .inl (Y 0, 64, .inl p1_cells))]

set_option maxHeartbeats 4000000 in
set_option maxRecDepth 100000 in
theorem wk_X4_lessen {p : Program} {l : Launch} {e : Env} {R : Room} {s : State} {m : MethodId} {args : Array Value} {below : List Frame} {meth : Method} {c : Code} {Q : State → Prop} {G : va_G} {Y : Nat → ClassId} {tF : Nat} {A : Nat → Prop} (h_t : Nat) (h_p1 : Nat) (B_t : Nat → Nat) (B_t_best : Nat → Nat) (B_p1 : Nat → Nat) (t_named : Int32) (t_best_n : Int32) (t_best_cells : Nat → Int32) (t_firstRow : Nat → Int32) (t_names : Nat → Int32) (t_things : Nat → Int32) (t_twins : Nat → Int32) (p1_n : Int32) (p1_cells : Nat → Int32) {K : Int32 → Int32 → Int32 → (Nat → Int32) → (Nat → Int32) → (Nat → Int32) → (Nat → Int32) → (Nat → Int32) → Prop} (hx : p.tables.exec = Jvm.exec) (hb : c.code = cX4_lessen) (hml : c.maxLocals = 2) (hown : s.vm.findClass RX4 = some m.cls) (hts : ∀ w ∈ wsX4_lessen, w.before args s = true) (hK : va_K G vwCl (tyL Y) s) (hE : Ev A tF s) (hA : ∀ q, s.heap.size ≤ q → A q) (hRf : 23 ≤ R.frames) (hRl : 539 ≤ R.locals) (hret : ∀ (r : Int32) (t_named : Int32) (t_best_n : Int32) (t_best_cells : Nat → Int32) (t_firstRow : Nat → Int32) (t_names : Nat → Int32) (t_things : Nat → Int32) (t_twins : Nat → Int32) (H : Heap) (locs : List Loc) (ls : Array Slot) (pc : Nat), va_P G vwCl (w_X4_lessen Y h_t h_p1 B_t B_t_best B_p1 t_named t_best_n t_best_cells t_firstRow t_names t_things t_twins p1_n p1_cells) H → va_D A (w_X4_lessen Y h_t h_p1 B_t B_t_best B_p1 t_named t_best_n t_best_cells t_firstRow t_names t_things t_twins p1_n p1_cells) → va_S A s.heap H locs → zb r → K r t_named t_best_n t_best_cells t_firstRow t_names t_things t_twins → decode cX4_lessen pc = .ok (.ireturn, 1) → W p l e R s m args below meth c H locs 0 0 Q (F0 m pc ls [.int r])) (hP : va_P G vwCl (w_X4_lessen Y h_t h_p1 B_t B_t_best B_p1 t_named t_best_n t_best_cells t_firstRow t_names t_things t_twins p1_n p1_cells) s.heap) (hD : va_D A (w_X4_lessen Y h_t h_p1 B_t B_t_best B_p1 t_named t_best_n t_best_cells t_firstRow t_names t_things t_twins p1_n p1_cells)) (h : pX4_lessen t_named t_best_n t_best_cells t_firstRow t_names t_things t_twins p1_n p1_cells K) : W p l e R s m args below meth c s.heap [] 0 0 Q (entryFrame m ([.ref h_t, .ref h_p1] : List Value).toArray 2) := by
  have inX4 : ∀ w ∈ u_ws RX4 TX4 6, w ∈ wsX4_lessen := by decide +kernel
  have hf14 := hts (.fieldLink RX4 14 "RackBench$Namer" "best" "LRackBench$Table;") (by decide +kernel)
  have hf24 := hts (.fieldLink RX4 24 "RackBench$Namer" "names" "[I") (by decide +kernel)
  have hf33 := hts (.fieldLink RX4 33 "RackBench$Namer" "named" "I") (by decide +kernel)
  have hl := lv_entry ([.ref h_t, .ref h_p1]) (n := 2) (Nat.le_of_ble_eq_true rfl)
  rw [lg_entry_eq]
  generalize (lg_sl ([.ref h_t, .ref h_p1]) ++ List.replicate (2 - (lg_sl ([.ref h_t, .ref h_p1])).length) Slot.unset).toArray = ls at hl ⊢
  have hl : lv_has ls 2 [(0, .ref h_t), (1, .ref h_p1)] := hl
  generalize hH0 : s.heap = H at hP ⊢
  have hS : va_S A s.heap H [] := by rw [← hH0]; exact va_S.rf
  clear hH0
  generalize ([] : List Loc) = locs at hS ⊢
  refine lv_aload_n hx hb dX4_lessen_0 rfl (lv_at hl 0 rfl) ?_
  refine va_get (D := G) (ci := 4) (v := .ref (B_t 0)) (C := RX4) (T := TX4) (N := 6) hx hb hts inX4 hown hK hP 0 rfl rfl 0 (by decide) hf14 (fun _ h9 => h9) rfl dX4_lessen_1 ?_
  refine lv_aload_n hx hb dX4_lessen_4 rfl (lv_at hl 1 rfl) ?_
  refine mc_vV ⟨hx, hb, hml, hown, hts⟩ hK hE hA hP hD hS (c_X7_copy l G Y tF H.size (B_t 0) h_p1 B_t_best B_p1 t_best_n t_best_cells p1_n p1_cells h) (cwV 1 hts gX4_lessen_X7_copy rfl rfl rfl (by decide +kernel) ⟨Nat.le_trans (by decide) hRf, Nat.le_trans (by decide) hRl⟩) (fun u => (w_X4_lessen Y h_t h_p1 B_t B_t_best B_p1 t_named u.1 u.2 t_firstRow t_names t_things t_twins p1_n p1_cells)) [1, 2, 7, 8] [0, 3, 4, 5, 6] [0, 5, 6, 1, 2, 3, 4, 7, 8] rfl rfl rfl rfl (by decide) (fun _ => rfl) rfl 1 6 rfl rfl rfl rfl hl.1 rfl (Nat.le_of_ble_eq_true rfl) dX4_lessen_5 (fun u H locs h hP hD hS => ?_)
  obtain ⟨t_best_n_5, t_best_cells_5⟩ := u
  try dsimp only at h
  have hP : va_P G vwCl (w_X4_lessen Y h_t h_p1 B_t B_t_best B_p1 t_named t_best_n_5 t_best_cells_5 t_firstRow t_names t_things t_twins p1_n p1_cells) H := hP
  have hD : va_D A (w_X4_lessen Y h_t h_p1 B_t B_t_best B_p1 t_named t_best_n_5 t_best_cells_5 t_firstRow t_names t_things t_twins p1_n p1_cells) := hD
  refine lv_aload_n hx hb dX4_lessen_8 rfl (lv_at hl 0 rfl) ?_
  refine lv_iconst (v := 0) hx hb dX4_lessen_9 (by decide) ?_
  refine va_put (D := G) (ci := 4) (v := .int (0 : Int32)) (ty := .int) (C := RX4) (T := TX4) (N := 6) hx hb hts inX4 tyX4 tyX4_ok nmX4 hown hK hP hD hS 0 rfl rfl 5 (by decide) hf33 (fun _ h9 => h9) rfl (by decide +kernel) rfl rfl (Nat.le_of_ble_eq_true rfl) dX4_lessen_10 (fun H locs hP hD hS => ?_)
  have hP : va_P G vwCl (w_X4_lessen Y h_t h_p1 B_t B_t_best B_p1 (0 : Int32) t_best_n_5 t_best_cells_5 t_firstRow t_names t_things t_twins p1_n p1_cells) H := hP
  have hD : va_D A (w_X4_lessen Y h_t h_p1 B_t B_t_best B_p1 (0 : Int32) t_best_n_5 t_best_cells_5 t_firstRow t_names t_things t_twins p1_n p1_cells) := hD
  refine lv_aload_n hx hb dX4_lessen_13 rfl (lv_at hl 0 rfl) ?_
  refine va_get (D := G) (ci := 4) (v := .ref (B_t 2)) (C := RX4) (T := TX4) (N := 6) hx hb hts inX4 hown hK hP 0 rfl rfl 2 (by decide) hf24 (fun _ h9 => h9) rfl dX4_lessen_14 ?_
  refine lv_iconst (v := -1) hx hb dX4_lessen_17 (by decide) ?_
  refine mc_vS ⟨hx, hb, hml, hown, hts⟩ hK hE hA hP hD hS (c_J7_fill_53178 l G Y tF H.size (B_t 2) 8 t_names (-1 : Int32) h) (va_cwS 2 hts gX4_lessen_J7_fill_53178 rfl rfl rfl (by decide +kernel) ⟨Nat.le_trans (by decide) hRf, Nat.le_trans (by decide) hRl⟩) (fun u => (w_X4_lessen Y h_t h_p1 B_t B_t_best B_p1 (0 : Int32) t_best_n_5 t_best_cells_5 t_firstRow u t_things t_twins p1_n p1_cells)) [4] [0, 1, 2, 3, 5, 6, 7, 8] [0, 1, 2, 3, 8, 4, 5, 6, 7] rfl rfl rfl rfl (by decide) (fun _ => rfl) rfl rfl hl.1 rfl (Nat.le_of_ble_eq_true rfl) dX4_lessen_18 (fun u H locs h hP hD hS => ?_)
  obtain ⟨t_names_18, rfl⟩ : ∃ z, z = u := ⟨_, rfl⟩
  try dsimp only at h
  have hP : va_P G vwCl (w_X4_lessen Y h_t h_p1 B_t B_t_best B_p1 (0 : Int32) t_best_n_5 t_best_cells_5 t_firstRow t_names_18 t_things t_twins p1_n p1_cells) H := hP
  have hD : va_D A (w_X4_lessen Y h_t h_p1 B_t B_t_best B_p1 (0 : Int32) t_best_n_5 t_best_cells_5 t_firstRow t_names_18 t_things t_twins p1_n p1_cells) := hD
  refine lv_aload_n hx hb dX4_lessen_21 rfl (lv_at hl 0 rfl) ?_
  refine lv_aload_n hx hb dX4_lessen_22 rfl (lv_at hl 1 rfl) ?_
  refine mc_vV ⟨hx, hb, hml, hown, hts⟩ hK hE hA hP hD hS (c_X4_findTwins l G Y tF H.size h_t h_p1 B_t B_p1 (0 : Int32) t_twins p1_n p1_cells h) (cwV 1 hts gX4_lessen_X4_findTwins rfl rfl rfl (by decide +kernel) ⟨Nat.le_trans (by decide) hRf, Nat.le_trans (by decide) hRl⟩) (fun u => (w_X4_lessen Y h_t h_p1 B_t B_t_best B_p1 (0 : Int32) t_best_n_5 t_best_cells_5 t_firstRow t_names_18 t_things u p1_n p1_cells)) [0, 6, 7, 8] [1, 2, 3, 4, 5] [5, 0, 1, 2, 3, 4, 6, 7, 8] rfl rfl rfl rfl (by decide) (fun _ => rfl) rfl 0 4 rfl rfl rfl rfl hl.1 rfl (Nat.le_of_ble_eq_true rfl) dX4_lessen_23 (fun u H locs h hP hD hS => ?_)
  obtain ⟨t_twins_23, rfl⟩ : ∃ z, z = u := ⟨_, rfl⟩
  try dsimp only at h
  have hP : va_P G vwCl (w_X4_lessen Y h_t h_p1 B_t B_t_best B_p1 (0 : Int32) t_best_n_5 t_best_cells_5 t_firstRow t_names_18 t_things t_twins_23 p1_n p1_cells) H := hP
  have hD : va_D A (w_X4_lessen Y h_t h_p1 B_t B_t_best B_p1 (0 : Int32) t_best_n_5 t_best_cells_5 t_firstRow t_names_18 t_things t_twins_23 p1_n p1_cells) := hD
  refine lv_aload_n hx hb dX4_lessen_26 rfl (lv_at hl 0 rfl) ?_
  refine lv_aload_n hx hb dX4_lessen_27 rfl (lv_at hl 1 rfl) ?_
  refine lv_iconst (v := 0) hx hb dX4_lessen_28 (by decide) ?_
  refine mc_vV ⟨hx, hb, hml, hown, hts⟩ hK hE hA hP hD hS (c_X4_nameColumn 10 l G Y tF H.size h_t h_p1 B_t B_t_best B_p1 (0 : Int32) t_best_n_5 t_best_cells_5 t_firstRow t_names_18 t_things t_twins_23 p1_n p1_cells (0 : Int32) h) (cwV 2 hts gX4_lessen_X4_nameColumn rfl rfl rfl (by decide +kernel) ⟨Nat.le_trans (by decide) hRf, Nat.le_trans (by decide) hRl⟩) (fun u => (w_X4_lessen Y h_t h_p1 B_t B_t_best B_p1 u.1 t_best_n_5 u.2.1 u.2.2.1 u.2.2.2.1 u.2.2.2.2 t_twins_23 p1_n p1_cells)) [0, 1, 2, 3, 4, 5, 6, 7, 8] [] [0, 1, 2, 3, 4, 5, 6, 7, 8] rfl rfl rfl rfl (by decide) (fun _ => rfl) rfl 0 4 rfl rfl rfl rfl hl.1 rfl (Nat.le_of_ble_eq_true rfl) dX4_lessen_29 (fun u H locs h hP hD hS => ?_)
  obtain ⟨t_named_29, t_best_cells_29, t_firstRow_29, t_names_29, t_things_29⟩ := u
  try dsimp only at h
  have hP : va_P G vwCl (w_X4_lessen Y h_t h_p1 B_t B_t_best B_p1 t_named_29 t_best_n_5 t_best_cells_29 t_firstRow_29 t_names_29 t_things_29 t_twins_23 p1_n p1_cells) H := hP
  have hD : va_D A (w_X4_lessen Y h_t h_p1 B_t B_t_best B_p1 t_named_29 t_best_n_5 t_best_cells_29 t_firstRow_29 t_names_29 t_things_29 t_twins_23 p1_n p1_cells) := hD
  refine lv_aload_n hx hb dX4_lessen_32 rfl (lv_at hl 0 rfl) ?_
  refine lv_aload_n hx hb dX4_lessen_33 rfl (lv_at hl 1 rfl) ?_
  refine mc_iV ⟨hx, hb, hml, hown, hts⟩ hK hE hA hP hD hS (c_X4_isBest l G Y tF H.size h_t h_p1 B_t B_t_best B_p1 t_named_29 t_best_n_5 t_best_cells_29 p1_n p1_cells h) (cwV 1 hts gX4_lessen_X4_isBest rfl rfl rfl (by decide +kernel) ⟨Nat.le_trans (by decide) hRf, Nat.le_trans (by decide) hRl⟩) (fun u => (w_X4_lessen Y h_t h_p1 B_t B_t_best B_p1 t_named_29 t_best_n_5 t_best_cells_29 t_firstRow_29 t_names_29 t_things_29 t_twins_23 p1_n p1_cells)) [0, 1, 2, 7, 8] [3, 4, 5, 6] [4, 5, 6, 0, 1, 2, 3, 7, 8] rfl rfl rfl rfl (by decide) (fun _ => rfl) rfl 0 4 rfl rfl rfl rfl hl.1 rfl (Nat.le_of_ble_eq_true rfl) dX4_lessen_34 (fun r34 u H locs h hP hD hS => ?_)
  try dsimp only at h
  have hP : va_P G vwCl (w_X4_lessen Y h_t h_p1 B_t B_t_best B_p1 t_named_29 t_best_n_5 t_best_cells_29 t_firstRow_29 t_names_29 t_things_29 t_twins_23 p1_n p1_cells) H := hP
  have hD : va_D A (w_X4_lessen Y h_t h_p1 B_t B_t_best B_p1 t_named_29 t_best_n_5 t_best_cells_29 t_firstRow_29 t_names_29 t_things_29 t_twins_23 p1_n p1_cells) := hD
  obtain ⟨ht, hf⟩ := h
  refine lv_if_ne (tgt := 44) hx hb dX4_lessen_37 (by decide) (fun c9 => ?_) (fun c9 => ?_)
  · have h := ht c9
    refine lv_iconst (v := 0) hx hb dX4_lessen_44 (by decide) ?_
    obtain ⟨hz, h⟩ := h
    exact hret (0 : Int32) t_named_29 t_best_n_5 t_best_cells_29 t_firstRow_29 t_names_29 t_things_29 t_twins_23 H locs ls _ hP hD hS hz h dX4_lessen_45
  · have h := hf c9
    refine lv_iconst (v := 1) hx hb dX4_lessen_40 (by decide) ?_
    refine lv_goto (tgt := 45) hx hb dX4_lessen_41 (by decide) ?_
    obtain ⟨hz, h⟩ := h
    exact hret (1 : Int32) t_named_29 t_best_n_5 t_best_cells_29 t_firstRow_29 t_names_29 t_things_29 t_twins_23 H locs ls _ hP hD hS hz h dX4_lessen_45

set_option maxHeartbeats 4000000 in
set_option maxRecDepth 100000 in
theorem c_X4_lessen (l : Launch) (G : va_G) (Y : Nat → ClassId) (tF sz : Nat) (h_t : Nat) (h_p1 : Nat) (B_t : Nat → Nat) (B_t_best : Nat → Nat) (B_p1 : Nat → Nat) (t_named : Int32) (t_best_n : Int32) (t_best_cells : Nat → Int32) (t_firstRow : Nat → Int32) (t_names : Nat → Int32) (t_things : Nat → Int32) (t_twins : Nat → Int32) (p1_n : Int32) (p1_cells : Nat → Int32) {K : Int32 → Int32 → Int32 → (Nat → Int32) → (Nat → Int32) → (Nat → Int32) → (Nat → Int32) → (Nat → Int32) → Prop} (h : pX4_lessen t_named t_best_n t_best_cells t_firstRow t_names t_things t_twins p1_n p1_cells K) : Met l yX4_lessen wsX4_lessen ({ frames := 23, cells := 0, slots := 0, locals := 539 }) (PcM G Y tF sz (w_X4_lessen Y h_t h_p1 B_t B_t_best B_p1 t_named t_best_n t_best_cells t_firstRow t_names t_things t_twins p1_n p1_cells) [.ref h_t, .ref h_p1]) (va_Qi (fun (r : Int32) (u : Int32 × Int32 × (Nat → Int32) × (Nat → Int32) × (Nat → Int32) × (Nat → Int32) × (Nat → Int32)) => K r u.1 u.2.1 u.2.2.1 u.2.2.2.1 u.2.2.2.2.1 u.2.2.2.2.2.1 u.2.2.2.2.2.2) (fun u t => BM G Y (va_A (w_X4_lessen Y h_t h_p1 B_t B_t_best B_p1 t_named t_best_n t_best_cells t_firstRow t_names t_things t_twins p1_n p1_cells) sz) (w_X4_lessen Y h_t h_p1 B_t B_t_best B_p1 u.1 u.2.1 u.2.2.1 u.2.2.2.1 u.2.2.2.2.1 u.2.2.2.2.2.1 u.2.2.2.2.2.2 p1_n p1_cells) t) (va_A (w_X4_lessen Y h_t h_p1 B_t B_t_best B_p1 t_named t_best_n t_best_cells t_firstRow t_names t_things t_twins p1_n p1_cells) sz)) 0 0 (va_A (w_X4_lessen Y h_t h_p1 B_t B_t_best B_p1 t_named t_best_n t_best_cells t_firstRow t_names t_things t_twins p1_n p1_cells) sz) := by
  refine Met.ofW (cc := cX4_lessen) (maxL := 2) (ret := (some .boolean)) (by decide +kernel) rfl ?_
  intro p e s m args below meth c s₁ B hml hv
  obtain ⟨rfl, hsz, hP, hK, hD0, hE⟩ := hv
  have hts := atoms_spec (ws := wsX4_lessen) B.pre
  have hown : s.vm.findClass RX4 = some m.cls := findClass_of_methodNamed B.named
  have hlocks := B.notSynchronized
  subst hsz
  have hD := hD0.self (sz := s.heap.size)
  exact wk_X4_lessen h_t h_p1 B_t B_t_best B_p1 t_named t_best_n t_best_cells t_firstRow t_names t_things t_twins p1_n p1_cells B.exec B.bytes hml hown hts hK hE (fun q h => Or.inr h) (Nat.le_refl _) (Nat.le_refl _) (fun r t_named t_best_n t_best_cells t_firstRow t_names t_things t_twins H locs ls pc hP hD hS hz hk hd => W.zret (v := r) B.exec B.bytes B.returns hz.n (fun t ht hW => ⟨⟨r, (t_named, t_best_n, t_best_cells, t_firstRow, t_names, t_things, t_twins), rfl, hk, by rw [ht]; exact hP, va_K.moved hW.alike hK, hD⟩, hS.F ht⟩) hS.2.2 hd) hP hD h
