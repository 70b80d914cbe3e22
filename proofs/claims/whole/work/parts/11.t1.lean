abbrev w_X5_image (Y : Nat → ClassId) : va_W := []

def pX5_image (x0 : Int32) (x1 : Int32) (K : Int32 → Prop) : Prop :=
  (K ((x0 >>> (((3 : Int32) * x1) &&& 31)) &&& (7 : Int32)))

set_option maxHeartbeats 4000000 in
set_option maxRecDepth 100000 in
theorem wk_X5_image {p : Program} {l : Launch} {e : Env} {R : Room} {s : State} {m : MethodId} {args : Array Value} {below : List Frame} {meth : Method} {c : Code} {Q : State → Prop} {G : va_G} {Y : Nat → ClassId} {tF : Nat} {A : Nat → Prop} (x0 : Int32) (x1 : Int32) {K : Int32 → Prop} (hx : p.tables.exec = Jvm.exec) (hb : c.code = cX5_image) (hml : c.maxLocals = 2) (hown : s.vm.findClass RX5 = some m.cls) (hts : ∀ w ∈ wsX5_image, w.before args s = true) (hK : va_K G vwCl (tyL Y) s) (hE : Ev A tF s) (hA : ∀ q, s.heap.size ≤ q → A q) (hRf : 0 ≤ R.frames) (hRl : 0 ≤ R.locals) (hret : ∀ (r : Int32)  (H : Heap) (locs : List Loc) (ls : Array Slot) (pc : Nat), va_P G vwCl (w_X5_image Y) H → va_D A (w_X5_image Y) → va_S A s.heap H locs → K r → decode cX5_image pc = .ok (.ireturn, 1) → W p l e R s m args below meth c H locs 0 0 Q (F0 m pc ls [.int r])) (hP : va_P G vwCl (w_X5_image Y) s.heap) (hD : va_D A (w_X5_image Y)) (h : pX5_image x0 x1 K) : W p l e R s m args below meth c s.heap [] 0 0 Q (entryFrame m ([.int x0, .int x1] : List Value).toArray 2) := by
  have hS : va_S A s.heap s.heap [] := va_S.rf
  have hl := lv_entry ([.int x0, .int x1]) (n := 2) (Nat.le_of_ble_eq_true rfl)
  rw [lg_entry_eq]
  generalize (lg_sl ([.int x0, .int x1]) ++ List.replicate (2 - (lg_sl ([.int x0, .int x1])).length) Slot.unset).toArray = ls at hl ⊢
  have hl : lv_has ls 2 [(0, .int x0), (1, .int x1)] := hl
  generalize hH0 : s.heap = H at hP ⊢
  have hS : va_S A s.heap H [] := by rw [← hH0]; exact va_S.rf
  clear hH0
  generalize ([] : List Loc) = locs at hS ⊢
  refine lv_iload_n hx hb dX5_image_0 rfl (lv_at hl 0 rfl) ?_
  refine lv_iconst (v := 3) hx hb dX5_image_1 (by decide) ?_
  refine lv_iload_n hx hb dX5_image_2 rfl (lv_at hl 1 rfl) ?_
  refine lv_imul hx hb dX5_image_3 ?_
  refine lv_ishr hx hb dX5_image_4 ?_
  refine lv_bipush (v := 7) hx hb dX5_image_5 (by decide) ?_
  refine lv_iand hx hb dX5_image_7 ?_
  exact hret ((x0 >>> (((3 : Int32) * x1) &&& 31)) &&& (7 : Int32))  H locs ls _ hP hD hS h dX5_image_8

set_option maxHeartbeats 4000000 in
set_option maxRecDepth 100000 in
theorem c_X5_image (l : Launch) (G : va_G) (Y : Nat → ClassId) (tF sz : Nat) (x0 : Int32) (x1 : Int32) {K : Int32 → Prop} (h : pX5_image x0 x1 K) : Met l yX5_image wsX5_image ({ frames := 0, cells := 0, slots := 0, locals := 0 }) (PcM G Y tF sz (w_X5_image Y) [.int x0, .int x1]) (va_Qi (fun (r : Int32) (u : Unit) => K r ) (fun u t => BM G Y (va_A (w_X5_image Y) sz) (w_X5_image Y) t) (va_A (w_X5_image Y) sz)) 0 0 (va_A (w_X5_image Y) sz) := by
  refine Met.ofW (cc := cX5_image) (maxL := 2) (ret := (some .int)) (by decide) rfl ?_
  intro p e s m args below meth c s₁ B hml hv
  obtain ⟨rfl, hsz, hP, hK, hD0, hE⟩ := hv
  have hts := atoms_spec (ws := wsX5_image) B.pre
  have hown : s.vm.findClass RX5 = some m.cls := findClass_of_methodNamed B.named
  have hlocks := B.notSynchronized
  subst hsz
  have hD := hD0.self (sz := s.heap.size)
  exact wk_X5_image B.exec B.bytes hml hown hts hK hE (fun q h => Or.inr h) (Nat.le_refl _) (Nat.le_refl _) (fun r  H locs ls pc hP hD hS hk hd => W.iret (v := r) B.exec B.bytes B.returns (fun t ht hW => ⟨⟨r, (), rfl, hk, by rw [ht]; exact hP, va_K.moved hW.alike hK, hD⟩, hS.F ht⟩) hS.2.2 hd) hP hD h

abbrev w_X5_with (Y : Nat → ClassId) : va_W := []

def pX5_with (x0 : Int32) (x1 : Int32) (x2 : Int32) (K : Int32 → Prop) : Prop :=
  (K (x0 ||| (x2 <<< (((3 : Int32) * x1) &&& 31))))

set_option maxHeartbeats 4000000 in
set_option maxRecDepth 100000 in
theorem wk_X5_with {p : Program} {l : Launch} {e : Env} {R : Room} {s : State} {m : MethodId} {args : Array Value} {below : List Frame} {meth : Method} {c : Code} {Q : State → Prop} {G : va_G} {Y : Nat → ClassId} {tF : Nat} {A : Nat → Prop} (x0 : Int32) (x1 : Int32) (x2 : Int32) {K : Int32 → Prop} (hx : p.tables.exec = Jvm.exec) (hb : c.code = cX5_with) (hml : c.maxLocals = 3) (hown : s.vm.findClass RX5 = some m.cls) (hts : ∀ w ∈ wsX5_with, w.before args s = true) (hK : va_K G vwCl (tyL Y) s) (hE : Ev A tF s) (hA : ∀ q, s.heap.size ≤ q → A q) (hRf : 0 ≤ R.frames) (hRl : 0 ≤ R.locals) (hret : ∀ (r : Int32)  (H : Heap) (locs : List Loc) (ls : Array Slot) (pc : Nat), va_P G vwCl (w_X5_with Y) H → va_D A (w_X5_with Y) → va_S A s.heap H locs → K r → decode cX5_with pc = .ok (.ireturn, 1) → W p l e R s m args below meth c H locs 0 0 Q (F0 m pc ls [.int r])) (hP : va_P G vwCl (w_X5_with Y) s.heap) (hD : va_D A (w_X5_with Y)) (h : pX5_with x0 x1 x2 K) : W p l e R s m args below meth c s.heap [] 0 0 Q (entryFrame m ([.int x0, .int x1, .int x2] : List Value).toArray 3) := by
  have hS : va_S A s.heap s.heap [] := va_S.rf
  have hl := lv_entry ([.int x0, .int x1, .int x2]) (n := 3) (Nat.le_of_ble_eq_true rfl)
  rw [lg_entry_eq]
  generalize (lg_sl ([.int x0, .int x1, .int x2]) ++ List.replicate (3 - (lg_sl ([.int x0, .int x1, .int x2])).length) Slot.unset).toArray = ls at hl ⊢
  have hl : lv_has ls 3 [(0, .int x0), (1, .int x1), (2, .int x2)] := hl
  generalize hH0 : s.heap = H at hP ⊢
  have hS : va_S A s.heap H [] := by rw [← hH0]; exact va_S.rf
  clear hH0
  generalize ([] : List Loc) = locs at hS ⊢
  refine lv_iload_n hx hb dX5_with_0 rfl (lv_at hl 0 rfl) ?_
  refine lv_iload_n hx hb dX5_with_1 rfl (lv_at hl 2 rfl) ?_
  refine lv_iconst (v := 3) hx hb dX5_with_2 (by decide) ?_
  refine lv_iload_n hx hb dX5_with_3 rfl (lv_at hl 1 rfl) ?_
  refine lv_imul hx hb dX5_with_4 ?_
  refine lv_ishl hx hb dX5_with_5 ?_
  refine lv_ior hx hb dX5_with_6 ?_
  exact hret (x0 ||| (x2 <<< (((3 : Int32) * x1) &&& 31)))  H locs ls _ hP hD hS h dX5_with_7

set_option maxHeartbeats 4000000 in
set_option maxRecDepth 100000 in
theorem c_X5_with (l : Launch) (G : va_G) (Y : Nat → ClassId) (tF sz : Nat) (x0 : Int32) (x1 : Int32) (x2 : Int32) {K : Int32 → Prop} (h : pX5_with x0 x1 x2 K) : Met l yX5_with wsX5_with ({ frames := 0, cells := 0, slots := 0, locals := 0 }) (PcM G Y tF sz (w_X5_with Y) [.int x0, .int x1, .int x2]) (va_Qi (fun (r : Int32) (u : Unit) => K r ) (fun u t => BM G Y (va_A (w_X5_with Y) sz) (w_X5_with Y) t) (va_A (w_X5_with Y) sz)) 0 0 (va_A (w_X5_with Y) sz) := by
  refine Met.ofW (cc := cX5_with) (maxL := 3) (ret := (some .int)) (by decide) rfl ?_
  intro p e s m args below meth c s₁ B hml hv
  obtain ⟨rfl, hsz, hP, hK, hD0, hE⟩ := hv
  have hts := atoms_spec (ws := wsX5_with) B.pre
  have hown : s.vm.findClass RX5 = some m.cls := findClass_of_methodNamed B.named
  have hlocks := B.notSynchronized
  subst hsz
  have hD := hD0.self (sz := s.heap.size)
  exact wk_X5_with B.exec B.bytes hml hown hts hK hE (fun q h => Or.inr h) (Nat.le_refl _) (Nat.le_refl _) (fun r  H locs ls pc hP hD hS hk hd => W.iret (v := r) B.exec B.bytes B.returns (fun t ht hW => ⟨⟨r, (), rfl, hk, by rw [ht]; exact hP, va_K.moved hW.alike hK, hD⟩, hS.F ht⟩) hS.2.2 hd) hP hD h

abbrev w_X5_unusedNumber (Y : Nat → ClassId) : va_W := []

def pX5_unusedNumber_4 (K : Int32 → Prop) (x0 : Int32) (x2 : Int32) (x3 : Int32) (R4 : Int32 → Int32 → Prop) : Prop :=
  (((8 : Int32) ≤ x3 → (K (0 : Int32))) ∧ (¬ (8 : Int32) ≤ x3 → ((¬ ((x0 >>> (x3 &&& 31)) &&& (1 : Int32)) = 0 → (R4 x2 (x3 + 1))) ∧ (((x0 >>> (x3 &&& 31)) &&& (1 : Int32)) = 0 → ((¬ x2 = 0 → (R4 (x2 + (-1)) (x3 + 1))) ∧ (x2 = 0 → (K x3)))))))

def pX5_unusedNumber (x0 : Int32) (x1 : Int32) (K : Int32 → Prop) : Prop :=
  (lpW2 (pX5_unusedNumber_4 K x0) x1 (0 : Int32))

set_option maxHeartbeats 4000000 in
set_option maxRecDepth 100000 in
theorem wk_X5_unusedNumber {p : Program} {l : Launch} {e : Env} {R : Room} {s : State} {m : MethodId} {args : Array Value} {below : List Frame} {meth : Method} {c : Code} {Q : State → Prop} {G : va_G} {Y : Nat → ClassId} {tF : Nat} {A : Nat → Prop} (x0 : Int32) (x1 : Int32) {K : Int32 → Prop} (hx : p.tables.exec = Jvm.exec) (hb : c.code = cX5_unusedNumber) (hml : c.maxLocals = 4) (hown : s.vm.findClass RX5 = some m.cls) (hts : ∀ w ∈ wsX5_unusedNumber, w.before args s = true) (hK : va_K G vwCl (tyL Y) s) (hE : Ev A tF s) (hA : ∀ q, s.heap.size ≤ q → A q) (hRf : 0 ≤ R.frames) (hRl : 0 ≤ R.locals) (hret : ∀ (r : Int32)  (H : Heap) (locs : List Loc) (ls : Array Slot) (pc : Nat), va_P G vwCl (w_X5_unusedNumber Y) H → va_D A (w_X5_unusedNumber Y) → va_S A s.heap H locs → K r → decode cX5_unusedNumber pc = .ok (.ireturn, 1) → W p l e R s m args below meth c H locs 0 0 Q (F0 m pc ls [.int r])) (hP : va_P G vwCl (w_X5_unusedNumber Y) s.heap) (hD : va_D A (w_X5_unusedNumber Y)) (h : pX5_unusedNumber x0 x1 K) : W p l e R s m args below meth c s.heap [] 0 0 Q (entryFrame m ([.int x0, .int x1] : List Value).toArray 4) := by
  have hS : va_S A s.heap s.heap [] := va_S.rf
  have hl := lv_entry ([.int x0, .int x1]) (n := 4) (Nat.le_of_ble_eq_true rfl)
  rw [lg_entry_eq]
  generalize (lg_sl ([.int x0, .int x1]) ++ List.replicate (4 - (lg_sl ([.int x0, .int x1])).length) Slot.unset).toArray = ls at hl ⊢
  have hl : lv_has ls 4 [(0, .int x0), (1, .int x1)] := hl
  generalize hH0 : s.heap = H at hP ⊢
  have hS : va_S A s.heap H [] := by rw [← hH0]; exact va_S.rf
  clear hH0
  generalize ([] : List Loc) = locs at hS ⊢
  refine lv_iload_n hx hb dX5_unusedNumber_0 rfl (lv_at hl 1 rfl) ?_
  refine lv_istore_n (lv' := [(2, .int x1), (0, .int x0), (1, .int x1)]) hx hb dX5_unusedNumber_1 rfl hl (by decide) rfl (fun ls hl => ?_)
  refine lv_iconst (v := 0) hx hb dX5_unusedNumber_2 (by decide) ?_
  refine lv_istore_n (lv' := [(3, .int (0 : Int32)), (2, .int x1), (0, .int x0), (1, .int x1)]) hx hb dX5_unusedNumber_3 rfl hl (by decide) rfl (fun ls hl => ?_)
  obtain ⟨I4, m4, hI4, hB4⟩ := h
  have L4 : ∀ (x0 : Int32) (I4 : Int32 → Int32 → Prop) (m4 : Int32 → Int32 → Nat), (∀ (x2 : Int32) (x3 : Int32), I4 x2 x3 → pX5_unusedNumber_4 K x0 x2 x3 (fun x2' x3' => I4 x2' x3' ∧ m4 x2' x3' < m4 x2 x3)) → ∀ (n : Nat) (x2 : Int32) (x3 : Int32) (H : Heap) (locs : List Loc) (ls : Array Slot), I4 x2 x3 → m4 x2 x3 < n → va_P G vwCl (w_X5_unusedNumber Y) H → va_D A (w_X5_unusedNumber Y) → va_S A s.heap H locs → lv_has ls 4 [(0, .int x0), (2, .int x2), (3, .int x3)] → W p l e R s m args below meth c H locs 0 0 Q (F0 m 4 ls []) := by
    intro x0 I4 m4 hB4 n
    induction n with
    | zero => intro x2 x3 H locs ls _ hm; exact absurd hm (Nat.not_lt_zero _)
    | succ n ih =>
      intro x2 x3 H locs ls hI hm hP hD hS hl
      obtain ⟨R4, h, rec4⟩ : ∃ R4 : Int32 → Int32 → Prop, pX5_unusedNumber_4 K x0 x2 x3 R4 ∧ ∀ (x2 : Int32) (x3 : Int32) (H : Heap) (locs : List Loc) (ls : Array Slot), R4 x2 x3 → va_P G vwCl (w_X5_unusedNumber Y) H → va_D A (w_X5_unusedNumber Y) → va_S A s.heap H locs → lv_has ls 4 [(0, .int x0), (2, .int x2), (3, .int x3)] → W p l e R s m args below meth c H locs 0 0 Q (F0 m 4 ls []) := ⟨_, hB4 x2 x3 hI, fun x2 x3 H locs ls hh hP hD hS hl => ih x2 x3 H locs ls hh.1 (Nat.lt_of_lt_of_le hh.2 (Nat.le_of_lt_succ hm)) hP hD hS hl⟩
      refine lv_iload_n hx hb dX5_unusedNumber_4 rfl (lv_at hl 2 rfl) ?_
      refine lv_bipush (v := 8) hx hb dX5_unusedNumber_5 (by decide) ?_
      obtain ⟨ht, hf⟩ := h
      refine lv_icmp_ge (tgt := 33) hx hb dX5_unusedNumber_7 (by decide) (fun c9 => ?_) (fun c9 => ?_)
      · have h := ht c9
        refine lv_iconst (v := 0) hx hb dX5_unusedNumber_33 (by decide) ?_
        exact hret (0 : Int32)  H locs ls _ hP hD hS h dX5_unusedNumber_34
      · have h := hf c9
        refine lv_iload_n hx hb dX5_unusedNumber_10 rfl (lv_at hl 0 rfl) ?_
        refine lv_iload_n hx hb dX5_unusedNumber_11 rfl (lv_at hl 2 rfl) ?_
        refine lv_ishr hx hb dX5_unusedNumber_12 ?_
        refine lv_iconst (v := 1) hx hb dX5_unusedNumber_13 (by decide) ?_
        refine lv_iand hx hb dX5_unusedNumber_14 ?_
        obtain ⟨ht, hf⟩ := h
        refine lv_if_ne (tgt := 27) hx hb dX5_unusedNumber_15 (by decide) (fun c9 => ?_) (fun c9 => ?_)
        · have h := ht c9
          refine lv_iinc (v := (x3 + 1)) (lv' := [(3, .int (x3 + 1)), (0, .int x0), (2, .int x2)]) hx hb dX5_unusedNumber_27 hl (k := 2) rfl rfl (by decide) rfl (fun ls hl => ?_)
          refine lv_goto (tgt := 4) hx hb dX5_unusedNumber_30 (by decide) ?_
          exact rec4 x2 (x3 + 1) H locs ls h hP hD hS (lv_sub hl [1, 2, 0] rfl)
        · have h := hf c9
          refine lv_iload_n hx hb dX5_unusedNumber_18 rfl (lv_at hl 1 rfl) ?_
          obtain ⟨ht, hf⟩ := h
          refine lv_if_ne (tgt := 24) hx hb dX5_unusedNumber_19 (by decide) (fun c9 => ?_) (fun c9 => ?_)
          · have h := ht c9
            refine lv_iinc (v := (x2 + (-1))) (lv' := [(2, .int (x2 + (-1))), (0, .int x0), (3, .int x3)]) hx hb dX5_unusedNumber_24 hl (k := 1) rfl rfl (by decide) rfl (fun ls hl => ?_)
            refine lv_iinc (v := (x3 + 1)) (lv' := [(3, .int (x3 + 1)), (2, .int (x2 + (-1))), (0, .int x0)]) hx hb dX5_unusedNumber_27 hl (k := 2) rfl rfl (by decide) rfl (fun ls hl => ?_)
            refine lv_goto (tgt := 4) hx hb dX5_unusedNumber_30 (by decide) ?_
            exact rec4 (x2 + (-1)) (x3 + 1) H locs ls h hP hD hS (lv_sub hl [2, 1, 0] rfl)
          · have h := hf c9
            refine lv_iload_n hx hb dX5_unusedNumber_22 rfl (lv_at hl 2 rfl) ?_
            exact hret x3  H locs ls _ hP hD hS h dX5_unusedNumber_23
  exact L4 x0 I4 m4 hB4 _ x1 (0 : Int32) H locs ls hI4 (Nat.lt_succ_self _) hP hD hS (lv_sub hl [2, 1, 0] rfl)

set_option maxHeartbeats 4000000 in
set_option maxRecDepth 100000 in
theorem c_X5_unusedNumber (l : Launch) (G : va_G) (Y : Nat → ClassId) (tF sz : Nat) (x0 : Int32) (x1 : Int32) {K : Int32 → Prop} (h : pX5_unusedNumber x0 x1 K) : Met l yX5_unusedNumber wsX5_unusedNumber ({ frames := 0, cells := 0, slots := 0, locals := 0 }) (PcM G Y tF sz (w_X5_unusedNumber Y) [.int x0, .int x1]) (va_Qi (fun (r : Int32) (u : Unit) => K r ) (fun u t => BM G Y (va_A (w_X5_unusedNumber Y) sz) (w_X5_unusedNumber Y) t) (va_A (w_X5_unusedNumber Y) sz)) 0 0 (va_A (w_X5_unusedNumber Y) sz) := by
  refine Met.ofW (cc := cX5_unusedNumber) (maxL := 4) (ret := (some .int)) (by decide) rfl ?_
  intro p e s m args below meth c s₁ B hml hv
  obtain ⟨rfl, hsz, hP, hK, hD0, hE⟩ := hv
  have hts := atoms_spec (ws := wsX5_unusedNumber) B.pre
  have hown : s.vm.findClass RX5 = some m.cls := findClass_of_methodNamed B.named
  have hlocks := B.notSynchronized
  subst hsz
  have hD := hD0.self (sz := s.heap.size)
  exact wk_X5_unusedNumber B.exec B.bytes hml hown hts hK hE (fun q h => Or.inr h) (Nat.le_refl _) (Nat.le_refl _) (fun r  H locs ls pc hP hD hS hk hd => W.iret (v := r) B.exec B.bytes B.returns (fun t ht hW => ⟨⟨r, (), rfl, hk, by rw [ht]; exact hP, va_K.moved hW.alike hK, hD⟩, hS.F ht⟩) hS.2.2 hd) hP hD h

abbrev w_X5_numbered (Y : Nat → ClassId) : va_W := []

def pX5_numbered_10 (K : Int32 → Prop) (x0 : Int32) (x2 : Int32) (x3 : Int32) (x4 : Int32) (x5 : Int32) (R10 : Int32 → Int32 → Int32 → Int32 → Prop) : Prop :=
  ((x0 ≤ x5 → (K x2)) ∧ (¬ x0 ≤ x5 → (vp_in ((x0 - (1 : Int32)) - x5) 9 ∧ (¬ (fct (Int32.toNatClampNeg ((x0 - (1 : Int32)) - x5))) = 0 ∧ (pX5_unusedNumber x3 (x4 / (fct (Int32.toNatClampNeg ((x0 - (1 : Int32)) - x5)))) (fun r34 => (¬ (fct (Int32.toNatClampNeg ((x0 - (1 : Int32)) - x5))) = 0 ∧ (pX5_with x2 x5 r34 (fun r58 => (R10 r58 (x3 ||| ((1 : Int32) <<< (r34 &&& 31))) (x4 - x4 / (fct (Int32.toNatClampNeg ((x0 - (1 : Int32)) - x5))) * (fct (Int32.toNatClampNeg ((x0 - (1 : Int32)) - x5)))) (x5 + 1)))))))))))

def pX5_numbered (x0 : Int32) (x1 : Int32) (K : Int32 → Prop) : Prop :=
  (lpW4 (pX5_numbered_10 K x0) (0 : Int32) (0 : Int32) x1 (0 : Int32))

set_option maxHeartbeats 4000000 in
set_option maxRecDepth 100000 in
theorem wk_X5_numbered {p : Program} {l : Launch} {e : Env} {R : Room} {s : State} {m : MethodId} {args : Array Value} {below : List Frame} {meth : Method} {c : Code} {Q : State → Prop} {G : va_G} {Y : Nat → ClassId} {tF : Nat} {A : Nat → Prop} (x0 : Int32) (x1 : Int32) {K : Int32 → Prop} (hx : p.tables.exec = Jvm.exec) (hb : c.code = cX5_numbered) (hml : c.maxLocals = 8) (hown : s.vm.findClass RX5 = some m.cls) (hts : ∀ w ∈ wsX5_numbered, w.before args s = true) (hK : va_K G vwCl (tyL Y) s) (hE : Ev A tF s) (hA : ∀ q, s.heap.size ≤ q → A q) (hRf : 1 ≤ R.frames) (hRl : 23 ≤ R.locals) (hret : ∀ (r : Int32)  (H : Heap) (locs : List Loc) (ls : Array Slot) (pc : Nat), va_P G vwCl (w_X5_numbered Y) H → va_D A (w_X5_numbered Y) → va_S A s.heap H locs → K r → decode cX5_numbered pc = .ok (.ireturn, 1) → W p l e R s m args below meth c H locs 0 0 Q (F0 m pc ls [.int r])) (hP : va_P G vwCl (w_X5_numbered Y) s.heap) (hD : va_D A (w_X5_numbered Y)) (h : pX5_numbered x0 x1 K) : W p l e R s m args below meth c s.heap [] 0 0 Q (entryFrame m ([.int x0, .int x1] : List Value).toArray 8) := by
  have hS : va_S A s.heap s.heap [] := va_S.rf
  have hl := lv_entry ([.int x0, .int x1]) (n := 8) (Nat.le_of_ble_eq_true rfl)
  rw [lg_entry_eq]
  generalize (lg_sl ([.int x0, .int x1]) ++ List.replicate (8 - (lg_sl ([.int x0, .int x1])).length) Slot.unset).toArray = ls at hl ⊢
  have hl : lv_has ls 8 [(0, .int x0), (1, .int x1)] := hl
  generalize hH0 : s.heap = H at hP ⊢
  have hS : va_S A s.heap H [] := by rw [← hH0]; exact va_S.rf
  clear hH0
  generalize ([] : List Loc) = locs at hS ⊢
  refine lv_iconst (v := 0) hx hb dX5_numbered_0 (by decide) ?_
  refine lv_istore_n (lv' := [(2, .int (0 : Int32)), (0, .int x0), (1, .int x1)]) hx hb dX5_numbered_1 rfl hl (by decide) rfl (fun ls hl => ?_)
  refine lv_iconst (v := 0) hx hb dX5_numbered_2 (by decide) ?_
  refine lv_istore_n (lv' := [(3, .int (0 : Int32)), (2, .int (0 : Int32)), (0, .int x0), (1, .int x1)]) hx hb dX5_numbered_3 rfl hl (by decide) rfl (fun ls hl => ?_)
  refine lv_iload_n hx hb dX5_numbered_4 rfl (lv_at hl 3 rfl) ?_
  refine lv_istore (lv' := [(4, .int x1), (3, .int (0 : Int32)), (2, .int (0 : Int32)), (0, .int x0), (1, .int x1)]) hx hb dX5_numbered_5 hl (by decide) rfl (fun ls hl => ?_)
  refine lv_iconst (v := 0) hx hb dX5_numbered_7 (by decide) ?_
  refine lv_istore (lv' := [(5, .int (0 : Int32)), (4, .int x1), (3, .int (0 : Int32)), (2, .int (0 : Int32)), (0, .int x0), (1, .int x1)]) hx hb dX5_numbered_8 hl (by decide) rfl (fun ls hl => ?_)
  obtain ⟨I10, m10, hI10, hB10⟩ := h
  have L10 : ∀ (x0 : Int32) (I10 : Int32 → Int32 → Int32 → Int32 → Prop) (m10 : Int32 → Int32 → Int32 → Int32 → Nat), (∀ (x2 : Int32) (x3 : Int32) (x4 : Int32) (x5 : Int32), I10 x2 x3 x4 x5 → pX5_numbered_10 K x0 x2 x3 x4 x5 (fun x2' x3' x4' x5' => I10 x2' x3' x4' x5' ∧ m10 x2' x3' x4' x5' < m10 x2 x3 x4 x5)) → ∀ (n : Nat) (x2 : Int32) (x3 : Int32) (x4 : Int32) (x5 : Int32) (H : Heap) (locs : List Loc) (ls : Array Slot), I10 x2 x3 x4 x5 → m10 x2 x3 x4 x5 < n → va_P G vwCl (w_X5_numbered Y) H → va_D A (w_X5_numbered Y) → va_S A s.heap H locs → lv_has ls 8 [(0, .int x0), (2, .int x2), (3, .int x3), (4, .int x4), (5, .int x5)] → W p l e R s m args below meth c H locs 0 0 Q (F0 m 10 ls []) := by
    intro x0 I10 m10 hB10 n
    induction n with
    | zero => intro x2 x3 x4 x5 H locs ls _ hm; exact absurd hm (Nat.not_lt_zero _)
    | succ n ih =>
      intro x2 x3 x4 x5 H locs ls hI hm hP hD hS hl
      obtain ⟨R10, h, rec10⟩ : ∃ R10 : Int32 → Int32 → Int32 → Int32 → Prop, pX5_numbered_10 K x0 x2 x3 x4 x5 R10 ∧ ∀ (x2 : Int32) (x3 : Int32) (x4 : Int32) (x5 : Int32) (H : Heap) (locs : List Loc) (ls : Array Slot), R10 x2 x3 x4 x5 → va_P G vwCl (w_X5_numbered Y) H → va_D A (w_X5_numbered Y) → va_S A s.heap H locs → lv_has ls 8 [(0, .int x0), (2, .int x2), (3, .int x3), (4, .int x4), (5, .int x5)] → W p l e R s m args below meth c H locs 0 0 Q (F0 m 10 ls []) := ⟨_, hB10 x2 x3 x4 x5 hI, fun x2 x3 x4 x5 H locs ls hh hP hD hS hl => ih x2 x3 x4 x5 H locs ls hh.1 (Nat.lt_of_lt_of_le hh.2 (Nat.le_of_lt_succ hm)) hP hD hS hl⟩
      refine lv_iload hx hb dX5_numbered_10 (lv_at hl 4 rfl) ?_
      refine lv_iload_n hx hb dX5_numbered_12 rfl (lv_at hl 0 rfl) ?_
      obtain ⟨ht, hf⟩ := h
      refine lv_icmp_ge (tgt := 68) hx hb dX5_numbered_13 (by decide) (fun c9 => ?_) (fun c9 => ?_)
      · have h := ht c9
        refine lv_iload_n hx hb dX5_numbered_68 rfl (lv_at hl 1 rfl) ?_
        exact hret x2  H locs ls _ hP hD hS h dX5_numbered_69
      · have h := hf c9
        refine va_getsN hx hb hE.2.1 hS hown (hE.nest args 11 _ rfl) (fun _ h9 => h9) dX5_numbered_16 ?_
        refine lv_iload_n hx hb dX5_numbered_19 rfl (lv_at hl 0 rfl) ?_
        refine lv_iconst (v := 1) hx hb dX5_numbered_20 (by decide) ?_
        refine lv_isub hx hb dX5_numbered_21 ?_
        refine lv_iload hx hb dX5_numbered_22 (lv_at hl 4 rfl) ?_
        refine lv_isub hx hb dX5_numbered_24 ?_
        obtain ⟨hin, h⟩ := h
        refine va_ti hx hb hE.2.2 hS hin rfl dX5_numbered_25 ?_
        refine lv_istore (lv' := [(6, .int (fct (Int32.toNatClampNeg ((x0 - (1 : Int32)) - x5)))), (0, .int x0), (2, .int x2), (3, .int x3), (4, .int x4), (5, .int x5)]) hx hb dX5_numbered_26 hl (by decide) rfl (fun ls hl => ?_)
        refine lv_iload_n hx hb dX5_numbered_28 rfl (lv_at hl 3 rfl) ?_
        refine lv_iload hx hb dX5_numbered_29 (lv_at hl 4 rfl) ?_
        refine lv_iload hx hb dX5_numbered_31 (lv_at hl 0 rfl) ?_
        obtain ⟨hne, h⟩ := h
        refine lv_idiv hx hb dX5_numbered_33 hne ?_
        refine mc_iS ⟨hx, hb, hml, hown, hts⟩ hK hE hA hP hD hS (c_X5_unusedNumber l G Y tF H.size x3 (x4 / (fct (Int32.toNatClampNeg ((x0 - (1 : Int32)) - x5)))) h) (va_cwS 2 hts gX5_numbered_X5_unusedNumber rfl rfl rfl (by decide +kernel) ⟨Nat.le_trans (by decide) hRf, Nat.le_trans (by decide) hRl⟩) (fun u => (w_X5_numbered Y)) [] [] [] rfl rfl rfl rfl (by decide) (fun _ => rfl) rfl rfl hl.1 rfl (by decide) dX5_numbered_34 (fun r34 u H locs h hP hD hS => ?_)
        dsimp only at h
        have hP : va_P G vwCl (w_X5_numbered Y) H := hP
        have hD : va_D A (w_X5_numbered Y) := hD
        refine lv_istore (lv' := [(7, .int r34), (6, .int (fct (Int32.toNatClampNeg ((x0 - (1 : Int32)) - x5)))), (0, .int x0), (2, .int x2), (3, .int x3), (4, .int x4), (5, .int x5)]) hx hb dX5_numbered_37 hl (by decide) rfl (fun ls hl => ?_)
        refine lv_iload hx hb dX5_numbered_39 (lv_at hl 5 rfl) ?_
        refine lv_iload hx hb dX5_numbered_41 (lv_at hl 1 rfl) ?_
        obtain ⟨hne, h⟩ := h
        refine lv_irem hx hb dX5_numbered_43 hne ?_
        refine lv_istore (lv' := [(4, .int (x4 - x4 / (fct (Int32.toNatClampNeg ((x0 - (1 : Int32)) - x5))) * (fct (Int32.toNatClampNeg ((x0 - (1 : Int32)) - x5))))), (7, .int r34), (6, .int (fct (Int32.toNatClampNeg ((x0 - (1 : Int32)) - x5)))), (0, .int x0), (2, .int x2), (3, .int x3), (5, .int x5)]) hx hb dX5_numbered_44 hl (by decide) rfl (fun ls hl => ?_)
        refine lv_iload_n hx hb dX5_numbered_46 rfl (lv_at hl 5 rfl) ?_
        refine lv_iconst (v := 1) hx hb dX5_numbered_47 (by decide) ?_
        refine lv_iload hx hb dX5_numbered_48 (lv_at hl 1 rfl) ?_
        refine lv_ishl hx hb dX5_numbered_50 ?_
        refine lv_ior hx hb dX5_numbered_51 ?_
        refine lv_istore_n (lv' := [(3, .int (x3 ||| ((1 : Int32) <<< (r34 &&& 31)))), (4, .int (x4 - x4 / (fct (Int32.toNatClampNeg ((x0 - (1 : Int32)) - x5))) * (fct (Int32.toNatClampNeg ((x0 - (1 : Int32)) - x5))))), (7, .int r34), (6, .int (fct (Int32.toNatClampNeg ((x0 - (1 : Int32)) - x5)))), (0, .int x0), (2, .int x2), (5, .int x5)]) hx hb dX5_numbered_52 rfl hl (by decide) rfl (fun ls hl => ?_)
        refine lv_iload_n hx hb dX5_numbered_53 rfl (lv_at hl 5 rfl) ?_
        refine lv_iload hx hb dX5_numbered_54 (lv_at hl 6 rfl) ?_
        refine lv_iload hx hb dX5_numbered_56 (lv_at hl 2 rfl) ?_
        refine mc_iS ⟨hx, hb, hml, hown, hts⟩ hK hE hA hP hD hS (c_X5_with l G Y tF H.size x2 x5 r34 h) (va_cwS 3 hts gX5_numbered_X5_with rfl rfl rfl (by decide +kernel) ⟨Nat.le_trans (by decide) hRf, Nat.le_trans (by decide) hRl⟩) (fun u => (w_X5_numbered Y)) [] [] [] rfl rfl rfl rfl (by decide) (fun _ => rfl) rfl rfl hl.1 rfl (by decide) dX5_numbered_58 (fun r58 u H locs h hP hD hS => ?_)
        dsimp only at h
        have hP : va_P G vwCl (w_X5_numbered Y) H := hP
        have hD : va_D A (w_X5_numbered Y) := hD
        refine lv_istore_n (lv' := [(2, .int r58), (3, .int (x3 ||| ((1 : Int32) <<< (r34 &&& 31)))), (4, .int (x4 - x4 / (fct (Int32.toNatClampNeg ((x0 - (1 : Int32)) - x5))) * (fct (Int32.toNatClampNeg ((x0 - (1 : Int32)) - x5))))), (7, .int r34), (6, .int (fct (Int32.toNatClampNeg ((x0 - (1 : Int32)) - x5)))), (0, .int x0), (5, .int x5)]) hx hb dX5_numbered_61 rfl hl (by decide) rfl (fun ls hl => ?_)
        refine lv_iinc (v := (x5 + 1)) (lv' := [(5, .int (x5 + 1)), (2, .int r58), (3, .int (x3 ||| ((1 : Int32) <<< (r34 &&& 31)))), (4, .int (x4 - x4 / (fct (Int32.toNatClampNeg ((x0 - (1 : Int32)) - x5))) * (fct (Int32.toNatClampNeg ((x0 - (1 : Int32)) - x5))))), (7, .int r34), (6, .int (fct (Int32.toNatClampNeg ((x0 - (1 : Int32)) - x5)))), (0, .int x0)]) hx hb dX5_numbered_62 hl (k := 6) rfl rfl (by decide) rfl (fun ls hl => ?_)
        refine lv_goto (tgt := 10) hx hb dX5_numbered_65 (by decide) ?_
        exact rec10 r58 (x3 ||| ((1 : Int32) <<< (r34 &&& 31))) (x4 - x4 / (fct (Int32.toNatClampNeg ((x0 - (1 : Int32)) - x5))) * (fct (Int32.toNatClampNeg ((x0 - (1 : Int32)) - x5)))) (x5 + 1) H locs ls h hP hD hS (lv_sub hl [6, 1, 2, 3, 0] rfl)
  exact L10 x0 I10 m10 hB10 _ (0 : Int32) (0 : Int32) x1 (0 : Int32) H locs ls hI10 (Nat.lt_succ_self _) hP hD hS (lv_sub hl [4, 3, 2, 1, 0] rfl)

set_option maxHeartbeats 4000000 in
set_option maxRecDepth 100000 in
theorem c_X5_numbered (l : Launch) (G : va_G) (Y : Nat → ClassId) (tF sz : Nat) (x0 : Int32) (x1 : Int32) {K : Int32 → Prop} (h : pX5_numbered x0 x1 K) : Met l yX5_numbered wsX5_numbered ({ frames := 1, cells := 0, slots := 0, locals := 23 }) (PcM G Y tF sz (w_X5_numbered Y) [.int x0, .int x1]) (va_Qi (fun (r : Int32) (u : Unit) => K r ) (fun u t => BM G Y (va_A (w_X5_numbered Y) sz) (w_X5_numbered Y) t) (va_A (w_X5_numbered Y) sz)) 0 0 (va_A (w_X5_numbered Y) sz) := by
  refine Met.ofW (cc := cX5_numbered) (maxL := 8) (ret := (some .int)) (by decide) rfl ?_
  intro p e s m args below meth c s₁ B hml hv
  obtain ⟨rfl, hsz, hP, hK, hD0, hE⟩ := hv
  have hts := atoms_spec (ws := wsX5_numbered) B.pre
  have hown : s.vm.findClass RX5 = some m.cls := findClass_of_methodNamed B.named
  have hlocks := B.notSynchronized
  subst hsz
  have hD := hD0.self (sz := s.heap.size)
  exact wk_X5_numbered B.exec B.bytes hml hown hts hK hE (fun q h => Or.inr h) (Nat.le_refl _) (Nat.le_refl _) (fun r  H locs ls pc hP hD hS hk hd => W.iret (v := r) B.exec B.bytes B.returns (fun t ht hW => ⟨⟨r, (), rfl, hk, by rw [ht]; exact hP, va_K.moved hW.alike hK, hD⟩, hS.F ht⟩) hS.2.2 hd) hP hD h

abbrev w_J9_floorMod_7cf53 (Y : Nat → ClassId) : va_W := []

def pJ9_floorMod_7cf53 (x0 : Int32) (x1 : Int32) (K : Int32 → Prop) : Prop :=
  (¬ x1 = 0 ∧ ((0 ≤ ((x0 - x0 / x1 * x1) ^^^ x1) → (K (x0 - x0 / x1 * x1))) ∧ (¬ 0 ≤ ((x0 - x0 / x1 * x1) ^^^ x1) → (((x0 - x0 / x1 * x1) = 0 → (K (x0 - x0 / x1 * x1))) ∧ (¬ (x0 - x0 / x1 * x1) = 0 → (K ((x0 - x0 / x1 * x1) + x1)))))))

set_option maxHeartbeats 4000000 in
set_option maxRecDepth 100000 in
theorem wk_J9_floorMod_7cf53 {p : Program} {l : Launch} {e : Env} {R : Room} {s : State} {m : MethodId} {args : Array Value} {below : List Frame} {meth : Method} {c : Code} {Q : State → Prop} {G : va_G} {Y : Nat → ClassId} {tF : Nat} {A : Nat → Prop} (x0 : Int32) (x1 : Int32) {K : Int32 → Prop} (hx : p.tables.exec = Jvm.exec) (hb : c.code = cJ9_floorMod_7cf53) (hml : c.maxLocals = 3) (hown : s.vm.findClass RJ9 = some m.cls) (hts : ∀ w ∈ wsJ9_floorMod_7cf53, w.before args s = true) (hK : va_K G vwCl (tyL Y) s) (hE : Ev A tF s) (hA : ∀ q, s.heap.size ≤ q → A q) (hRf : 0 ≤ R.frames) (hRl : 0 ≤ R.locals) (hret : ∀ (r : Int32)  (H : Heap) (locs : List Loc) (ls : Array Slot) (pc : Nat), va_P G vwCl (w_J9_floorMod_7cf53 Y) H → va_D A (w_J9_floorMod_7cf53 Y) → va_S A s.heap H locs → K r → decode cJ9_floorMod_7cf53 pc = .ok (.ireturn, 1) → W p l e R s m args below meth c H locs 0 0 Q (F0 m pc ls [.int r])) (hP : va_P G vwCl (w_J9_floorMod_7cf53 Y) s.heap) (hD : va_D A (w_J9_floorMod_7cf53 Y)) (h : pJ9_floorMod_7cf53 x0 x1 K) : W p l e R s m args below meth c s.heap [] 0 0 Q (entryFrame m ([.int x0, .int x1] : List Value).toArray 3) := by
  have hS : va_S A s.heap s.heap [] := va_S.rf
  have hl := lv_entry ([.int x0, .int x1]) (n := 3) (Nat.le_of_ble_eq_true rfl)
  rw [lg_entry_eq]
  generalize (lg_sl ([.int x0, .int x1]) ++ List.replicate (3 - (lg_sl ([.int x0, .int x1])).length) Slot.unset).toArray = ls at hl ⊢
  have hl : lv_has ls 3 [(0, .int x0), (1, .int x1)] := hl
  generalize hH0 : s.heap = H at hP ⊢
  have hS : va_S A s.heap H [] := by rw [← hH0]; exact va_S.rf
  clear hH0
  generalize ([] : List Loc) = locs at hS ⊢
  refine lv_iload_n hx hb dJ9_floorMod_7cf53_0 rfl (lv_at hl 0 rfl) ?_
  refine lv_iload_n hx hb dJ9_floorMod_7cf53_1 rfl (lv_at hl 1 rfl) ?_
  obtain ⟨hne, h⟩ := h
  refine lv_irem hx hb dJ9_floorMod_7cf53_2 hne ?_
  refine lv_istore_n (lv' := [(2, .int (x0 - x0 / x1 * x1)), (0, .int x0), (1, .int x1)]) hx hb dJ9_floorMod_7cf53_3 rfl hl (by decide) rfl (fun ls hl => ?_)
  refine lv_iload_n hx hb dJ9_floorMod_7cf53_4 rfl (lv_at hl 0 rfl) ?_
  refine lv_iload_n hx hb dJ9_floorMod_7cf53_5 rfl (lv_at hl 2 rfl) ?_
  refine lv_ixor hx hb dJ9_floorMod_7cf53_6 ?_
  obtain ⟨ht, hf⟩ := h
  refine lv_if_ge (tgt := 18) hx hb dJ9_floorMod_7cf53_7 (by decide) (fun c9 => ?_) (fun c9 => ?_)
  · have h := ht c9
    refine lv_iload_n hx hb dJ9_floorMod_7cf53_18 rfl (lv_at hl 0 rfl) ?_
    exact hret (x0 - x0 / x1 * x1)  H locs ls _ hP hD hS h dJ9_floorMod_7cf53_19
  · have h := hf c9
    refine lv_iload_n hx hb dJ9_floorMod_7cf53_10 rfl (lv_at hl 0 rfl) ?_
    obtain ⟨ht, hf⟩ := h
    refine lv_if_eq (tgt := 18) hx hb dJ9_floorMod_7cf53_11 (by decide) (fun c9 => ?_) (fun c9 => ?_)
    · have h := ht c9
      refine lv_iload_n hx hb dJ9_floorMod_7cf53_18 rfl (lv_at hl 0 rfl) ?_
      exact hret (x0 - x0 / x1 * x1)  H locs ls _ hP hD hS h dJ9_floorMod_7cf53_19
    · have h := hf c9
      refine lv_iload_n hx hb dJ9_floorMod_7cf53_14 rfl (lv_at hl 0 rfl) ?_
      refine lv_iload_n hx hb dJ9_floorMod_7cf53_15 rfl (lv_at hl 2 rfl) ?_
      refine lv_iadd hx hb dJ9_floorMod_7cf53_16 ?_
      refine lv_istore_n (lv' := [(2, .int ((x0 - x0 / x1 * x1) + x1)), (0, .int x0), (1, .int x1)]) hx hb dJ9_floorMod_7cf53_17 rfl hl (by decide) rfl (fun ls hl => ?_)
      refine lv_iload_n hx hb dJ9_floorMod_7cf53_18 rfl (lv_at hl 0 rfl) ?_
      exact hret ((x0 - x0 / x1 * x1) + x1)  H locs ls _ hP hD hS h dJ9_floorMod_7cf53_19

set_option maxHeartbeats 4000000 in
set_option maxRecDepth 100000 in
theorem c_J9_floorMod_7cf53 (l : Launch) (G : va_G) (Y : Nat → ClassId) (tF sz : Nat) (x0 : Int32) (x1 : Int32) {K : Int32 → Prop} (h : pJ9_floorMod_7cf53 x0 x1 K) : Met l yJ9_floorMod_7cf53 wsJ9_floorMod_7cf53 ({ frames := 0, cells := 0, slots := 0, locals := 0 }) (PcM G Y tF sz (w_J9_floorMod_7cf53 Y) [.int x0, .int x1]) (va_Qi (fun (r : Int32) (u : Unit) => K r ) (fun u t => BM G Y (va_A (w_J9_floorMod_7cf53 Y) sz) (w_J9_floorMod_7cf53 Y) t) (va_A (w_J9_floorMod_7cf53 Y) sz)) 0 0 (va_A (w_J9_floorMod_7cf53 Y) sz) := by
  refine Met.ofW (cc := cJ9_floorMod_7cf53) (maxL := 3) (ret := (some .int)) (by decide) rfl ?_
  intro p e s m args below meth c s₁ B hml hv
  obtain ⟨rfl, hsz, hP, hK, hD0, hE⟩ := hv
  have hts := atoms_spec (ws := wsJ9_floorMod_7cf53) B.pre
  have hown : s.vm.findClass RJ9 = some m.cls := findClass_of_methodNamed B.named
  have hlocks := B.notSynchronized
  subst hsz
  have hD := hD0.self (sz := s.heap.size)
  exact wk_J9_floorMod_7cf53 B.exec B.bytes hml hown hts hK hE (fun q h => Or.inr h) (Nat.le_refl _) (Nat.le_refl _) (fun r  H locs ls pc hP hD hS hk hd => W.iret (v := r) B.exec B.bytes B.returns (fun t ht hW => ⟨⟨r, (), rfl, hk, by rw [ht]; exact hP, va_K.moved hW.alike hK, hD⟩, hS.F ht⟩) hS.2.2 hd) hP hD h

abbrev w_J7_fill_53178 (Y : Nat → ClassId) (h_p0 : Nat) (N_p0 : Nat) (p0 : Nat → Int32) : va_W := [(h_p0, .inl (Y 0, N_p0, .inl p0))]

def pJ7_fill_53178_5 (N_p0 : Nat) (K : (Nat → Int32) → Prop) (x1 : Int32) (x3 : Int32) (x2 : Int32) (p0 : Nat → Int32) (R5 : Int32 → (Nat → Int32) → Prop) : Prop :=
  ((x3 ≤ x2 → (K p0)) ∧ (¬ x3 ≤ x2 → (vp_in x2 N_p0 ∧ (R5 (x2 + 1) (upd p0 (Int32.toNatClampNeg x2) x1)))))

def pJ7_fill_53178 (N_p0 : Nat) (p0 : Nat → Int32) (x1 : Int32) (K : (Nat → Int32) → Prop) : Prop :=
  (lpW2 (pJ7_fill_53178_5 N_p0 K x1 (Int32.ofNat N_p0)) (0 : Int32) p0)

set_option maxHeartbeats 4000000 in
set_option maxRecDepth 100000 in
theorem wk_J7_fill_53178 {p : Program} {l : Launch} {e : Env} {R : Room} {s : State} {m : MethodId} {args : Array Value} {below : List Frame} {meth : Method} {c : Code} {Q : State → Prop} {G : va_G} {Y : Nat → ClassId} {tF : Nat} {A : Nat → Prop} (h_p0 : Nat) (N_p0 : Nat) (p0 : Nat → Int32) (x1 : Int32) {K : (Nat → Int32) → Prop} (hx : p.tables.exec = Jvm.exec) (hb : c.code = cJ7_fill_53178) (hml : c.maxLocals = 4) (hown : s.vm.findClass RJ7 = some m.cls) (hts : ∀ w ∈ wsJ7_fill_53178, w.before args s = true) (hK : va_K G vwCl (tyL Y) s) (hE : Ev A tF s) (hA : ∀ q, s.heap.size ≤ q → A q) (hRf : 0 ≤ R.frames) (hRl : 0 ≤ R.locals) (hret : ∀ (p0 : Nat → Int32) (H : Heap) (locs : List Loc) (ls : Array Slot) (pc : Nat), va_P G vwCl (w_J7_fill_53178 Y h_p0 N_p0 p0) H → va_D A (w_J7_fill_53178 Y h_p0 N_p0 p0) → va_S A s.heap H locs → K p0 → decode cJ7_fill_53178 pc = .ok (.return_, 1) → W p l e R s m args below meth c H locs 0 0 Q (F0 m pc ls [])) (hP : va_P G vwCl (w_J7_fill_53178 Y h_p0 N_p0 p0) s.heap) (hD : va_D A (w_J7_fill_53178 Y h_p0 N_p0 p0)) (h : pJ7_fill_53178 N_p0 p0 x1 K) : W p l e R s m args below meth c s.heap [] 0 0 Q (entryFrame m ([.ref h_p0, .int x1] : List Value).toArray 4) := by
  have hS : va_S A s.heap s.heap [] := va_S.rf
  have hl := lv_entry ([.ref h_p0, .int x1]) (n := 4) (Nat.le_of_ble_eq_true rfl)
  rw [lg_entry_eq]
  generalize (lg_sl ([.ref h_p0, .int x1]) ++ List.replicate (4 - (lg_sl ([.ref h_p0, .int x1])).length) Slot.unset).toArray = ls at hl ⊢
  have hl : lv_has ls 4 [(0, .ref h_p0), (1, .int x1)] := hl
  generalize hH0 : s.heap = H at hP ⊢
  have hS : va_S A s.heap H [] := by rw [← hH0]; exact va_S.rf
  clear hH0
  generalize ([] : List Loc) = locs at hS ⊢
  refine lv_iconst (v := 0) hx hb dJ7_fill_53178_0 (by decide) ?_
  refine lv_istore_n (lv' := [(2, .int (0 : Int32)), (0, .ref h_p0), (1, .int x1)]) hx hb dJ7_fill_53178_1 rfl hl (by decide) rfl (fun ls hl => ?_)
  refine lv_aload_n hx hb dJ7_fill_53178_2 rfl (lv_at hl 1 rfl) ?_
  refine va_alen hx hb hK hP 0 0 rfl rfl rfl dJ7_fill_53178_3 ?_
  refine lv_istore_n (lv' := [(3, .int (Int32.ofNat N_p0)), (2, .int (0 : Int32)), (0, .ref h_p0), (1, .int x1)]) hx hb dJ7_fill_53178_4 rfl hl (by decide) rfl (fun ls hl => ?_)
  obtain ⟨I5, m5, hI5, hB5⟩ := h
  have L5 : ∀ (x1 : Int32) (x3 : Int32) (I5 : Int32 → (Nat → Int32) → Prop) (m5 : Int32 → (Nat → Int32) → Nat), (∀ (x2 : Int32) (p0 : Nat → Int32), I5 x2 p0 → pJ7_fill_53178_5 N_p0 K x1 x3 x2 p0 (fun x2' p0' => I5 x2' p0' ∧ m5 x2' p0' < m5 x2 p0)) → ∀ (n : Nat) (x2 : Int32) (p0 : Nat → Int32) (H : Heap) (locs : List Loc) (ls : Array Slot), I5 x2 p0 → m5 x2 p0 < n → va_P G vwCl (w_J7_fill_53178 Y h_p0 N_p0 p0) H → va_D A (w_J7_fill_53178 Y h_p0 N_p0 p0) → va_S A s.heap H locs → lv_has ls 4 [(0, .ref h_p0), (1, .int x1), (2, .int x2), (3, .int x3)] → W p l e R s m args below meth c H locs 0 0 Q (F0 m 5 ls []) := by
    intro x1 x3 I5 m5 hB5 n
    induction n with
    | zero => intro x2 p0 H locs ls _ hm; exact absurd hm (Nat.not_lt_zero _)
    | succ n ih =>
      intro x2 p0 H locs ls hI hm hP hD hS hl
      obtain ⟨R5, h, rec5⟩ : ∃ R5 : Int32 → (Nat → Int32) → Prop, pJ7_fill_53178_5 N_p0 K x1 x3 x2 p0 R5 ∧ ∀ (x2 : Int32) (p0 : Nat → Int32) (H : Heap) (locs : List Loc) (ls : Array Slot), R5 x2 p0 → va_P G vwCl (w_J7_fill_53178 Y h_p0 N_p0 p0) H → va_D A (w_J7_fill_53178 Y h_p0 N_p0 p0) → va_S A s.heap H locs → lv_has ls 4 [(0, .ref h_p0), (1, .int x1), (2, .int x2), (3, .int x3)] → W p l e R s m args below meth c H locs 0 0 Q (F0 m 5 ls []) := ⟨_, hB5 x2 p0 hI, fun x2 p0 H locs ls hh hP hD hS hl => ih x2 p0 H locs ls hh.1 (Nat.lt_of_lt_of_le hh.2 (Nat.le_of_lt_succ hm)) hP hD hS hl⟩
      refine lv_iload_n hx hb dJ7_fill_53178_5 rfl (lv_at hl 2 rfl) ?_
      refine lv_iload_n hx hb dJ7_fill_53178_6 rfl (lv_at hl 3 rfl) ?_
      obtain ⟨ht, hf⟩ := h
      refine lv_icmp_ge (tgt := 20) hx hb dJ7_fill_53178_7 (by decide) (fun c9 => ?_) (fun c9 => ?_)
      · have h := ht c9
        exact hret p0 H locs ls _ hP hD hS h dJ7_fill_53178_20
      · have h := hf c9
        refine lv_aload_n hx hb dJ7_fill_53178_10 rfl (lv_at hl 0 rfl) ?_
        refine lv_iload_n hx hb dJ7_fill_53178_11 rfl (lv_at hl 2 rfl) ?_
        refine lv_iload_n hx hb dJ7_fill_53178_12 rfl (lv_at hl 1 rfl) ?_
        obtain ⟨hin, h⟩ := h
        refine va_iast hx hb hK hP hD hS 0 0 rfl rfl hin dJ7_fill_53178_13 (fun H locs hP hD hS => ?_)
        have hP : va_P G vwCl (w_J7_fill_53178 Y h_p0 N_p0 (upd p0 (Int32.toNatClampNeg x2) x1)) H := hP
        have hD : va_D A (w_J7_fill_53178 Y h_p0 N_p0 (upd p0 (Int32.toNatClampNeg x2) x1)) := hD
        refine lv_iinc (v := (x2 + 1)) (lv' := [(2, .int (x2 + 1)), (0, .ref h_p0), (1, .int x1), (3, .int x3)]) hx hb dJ7_fill_53178_14 hl (k := 2) rfl rfl (by decide) rfl (fun ls hl => ?_)
        refine lv_goto (tgt := 5) hx hb dJ7_fill_53178_17 (by decide) ?_
        exact rec5 (x2 + 1) (upd p0 (Int32.toNatClampNeg x2) x1) H locs ls h hP hD hS (lv_sub hl [1, 2, 0, 3] rfl)
  exact L5 x1 (Int32.ofNat N_p0) I5 m5 hB5 _ (0 : Int32) p0 H locs ls hI5 (Nat.lt_succ_self _) hP hD hS (lv_sub hl [2, 3, 1, 0] rfl)

set_option maxHeartbeats 4000000 in
set_option maxRecDepth 100000 in
theorem c_J7_fill_53178 (l : Launch) (G : va_G) (Y : Nat → ClassId) (tF sz : Nat) (h_p0 : Nat) (N_p0 : Nat) (p0 : Nat → Int32) (x1 : Int32) {K : (Nat → Int32) → Prop} (h : pJ7_fill_53178 N_p0 p0 x1 K) : Met l yJ7_fill_53178 wsJ7_fill_53178 ({ frames := 0, cells := 0, slots := 0, locals := 0 }) (PcM G Y tF sz (w_J7_fill_53178 Y h_p0 N_p0 p0) [.ref h_p0, .int x1]) (va_Qv (fun u : (Nat → Int32) => K u) (fun u t => BM G Y (va_A (w_J7_fill_53178 Y h_p0 N_p0 p0) sz) (w_J7_fill_53178 Y h_p0 N_p0 u) t) (va_A (w_J7_fill_53178 Y h_p0 N_p0 p0) sz)) 0 0 (va_A (w_J7_fill_53178 Y h_p0 N_p0 p0) sz) := by
  refine Met.ofW (cc := cJ7_fill_53178) (maxL := 4) (ret := none) (by decide) rfl ?_
  intro p e s m args below meth c s₁ B hml hv
  obtain ⟨rfl, hsz, hP, hK, hD0, hE⟩ := hv
  have hts := atoms_spec (ws := wsJ7_fill_53178) B.pre
  have hown : s.vm.findClass RJ7 = some m.cls := findClass_of_methodNamed B.named
  have hlocks := B.notSynchronized
  subst hsz
  have hD := hD0.self (sz := s.heap.size)
  exact wk_J7_fill_53178 B.exec B.bytes hml hown hts hK hE (fun q h => Or.inr h) (Nat.le_refl _) (Nat.le_refl _) (fun p0 H locs ls pc hP hD hS hk hd => W.vret B.exec B.bytes B.returns (fun t ht hW => ⟨⟨p0, rfl, hk, by rw [ht]; exact hP, va_K.moved hW.alike hK, hD⟩, hS.F ht⟩) hS.2.2 hd) hP hD h

abbrev w_X7_has (Y : Nat → ClassId) (h_t : Nat) (B_t : Nat → Nat) (t_n : Int32) : va_W := [(h_t, .inr (6, [.ref (B_t 0), .int t_n]))]

def pX7_has_16 (t_n : Int32) (K : Int32 → Prop) : Prop :=
  (zb (0 : Int32) ∧ K (0 : Int32))

def pX7_has (t_n : Int32) (x1 : Int32) (K : Int32 → Prop) : Prop :=
  ((x1 < 0 → (pX7_has_16 t_n K)) ∧ (¬ x1 < 0 → ((t_n ≤ x1 → (pX7_has_16 t_n K)) ∧ (¬ t_n ≤ x1 → (zb (1 : Int32) ∧ K (1 : Int32))))))

set_option maxHeartbeats 4000000 in
set_option maxRecDepth 100000 in
theorem wk_X7_has {p : Program} {l : Launch} {e : Env} {R : Room} {s : State} {m : MethodId} {args : Array Value} {below : List Frame} {meth : Method} {c : Code} {Q : State → Prop} {G : va_G} {Y : Nat → ClassId} {tF : Nat} {A : Nat → Prop} (h_t : Nat) (B_t : Nat → Nat) (t_n : Int32) (x1 : Int32) {K : Int32 → Prop} (hx : p.tables.exec = Jvm.exec) (hb : c.code = cX7_has) (hml : c.maxLocals = 2) (hown : s.vm.findClass RX7 = some m.cls) (hts : ∀ w ∈ wsX7_has, w.before args s = true) (hK : va_K G vwCl (tyL Y) s) (hE : Ev A tF s) (hA : ∀ q, s.heap.size ≤ q → A q) (hRf : 0 ≤ R.frames) (hRl : 0 ≤ R.locals) (hret : ∀ (r : Int32)  (H : Heap) (locs : List Loc) (ls : Array Slot) (pc : Nat), va_P G vwCl (w_X7_has Y h_t B_t t_n) H → va_D A (w_X7_has Y h_t B_t t_n) → va_S A s.heap H locs → zb r → K r → decode cX7_has pc = .ok (.ireturn, 1) → W p l e R s m args below meth c H locs 0 0 Q (F0 m pc ls [.int r])) (hP : va_P G vwCl (w_X7_has Y h_t B_t t_n) s.heap) (hD : va_D A (w_X7_has Y h_t B_t t_n)) (h : pX7_has t_n x1 K) : W p l e R s m args below meth c s.heap [] 0 0 Q (entryFrame m ([.ref h_t, .int x1] : List Value).toArray 2) := by
  have inX7 : ∀ w ∈ u_ws RX7 TX7 2, w ∈ wsX7_has := by decide +kernel
  have hf15 := hts (.fieldLink RX7 15 "RackBench$Table" "n" "I") (by decide +kernel)
  have hS : va_S A s.heap s.heap [] := va_S.rf
  have hl := lv_entry ([.ref h_t, .int x1]) (n := 2) (Nat.le_of_ble_eq_true rfl)
  rw [lg_entry_eq]
  generalize (lg_sl ([.ref h_t, .int x1]) ++ List.replicate (2 - (lg_sl ([.ref h_t, .int x1])).length) Slot.unset).toArray = ls at hl ⊢
  have hl : lv_has ls 2 [(0, .ref h_t), (1, .int x1)] := hl
  generalize hH0 : s.heap = H at hP ⊢
  have hS : va_S A s.heap H [] := by rw [← hH0]; exact va_S.rf
  clear hH0
  generalize ([] : List Loc) = locs at hS ⊢
  have J16 : ∀  (H : Heap) (locs : List Loc) (ls : Array Slot), pX7_has_16 t_n K → va_P G vwCl (w_X7_has Y h_t B_t t_n) H → va_D A (w_X7_has Y h_t B_t t_n) → va_S A s.heap H locs → lv_has ls 2 [] → W p l e R s m args below meth c H locs 0 0 Q (F0 m 16 ls []) := by
    intro  H locs ls h hP hD hS hl
    refine lv_iconst (v := 0) hx hb dX7_has_16 (by decide) ?_
    obtain ⟨hz, h⟩ := h
    exact hret (0 : Int32)  H locs ls _ hP hD hS hz h dX7_has_17
  refine lv_iload_n hx hb dX7_has_0 rfl (lv_at hl 1 rfl) ?_
  obtain ⟨ht, hf⟩ := h
  refine lv_if_lt (tgt := 16) hx hb dX7_has_1 (by decide) (fun c9 => ?_) (fun c9 => ?_)
  · have h := ht c9
    exact J16  H locs ls h hP hD hS (lv_sub hl [] rfl)
  · have h := hf c9
    refine lv_iload_n hx hb dX7_has_4 rfl (lv_at hl 1 rfl) ?_
    refine lv_aload_n hx hb dX7_has_5 rfl (lv_at hl 0 rfl) ?_
    refine va_get (D := G) (ci := 6) (v := .int t_n) (C := RX7) (T := TX7) (N := 2) hx hb hts inX7 hown hK hP 0 rfl rfl 1 (by decide) hf15 (fun _ h9 => h9) rfl dX7_has_6 ?_
    obtain ⟨ht, hf⟩ := h
    refine lv_icmp_ge (tgt := 16) hx hb dX7_has_9 (by decide) (fun c9 => ?_) (fun c9 => ?_)
    · have h := ht c9
      exact J16  H locs ls h hP hD hS (lv_sub hl [] rfl)
    · have h := hf c9
      refine lv_iconst (v := 1) hx hb dX7_has_12 (by decide) ?_
      refine lv_goto (tgt := 17) hx hb dX7_has_13 (by decide) ?_
      obtain ⟨hz, h⟩ := h
      exact hret (1 : Int32)  H locs ls _ hP hD hS hz h dX7_has_17

set_option maxHeartbeats 4000000 in
set_option maxRecDepth 100000 in
theorem c_X7_has (l : Launch) (G : va_G) (Y : Nat → ClassId) (tF sz : Nat) (h_t : Nat) (B_t : Nat → Nat) (t_n : Int32) (x1 : Int32) {K : Int32 → Prop} (h : pX7_has t_n x1 K) : Met l yX7_has wsX7_has ({ frames := 0, cells := 0, slots := 0, locals := 0 }) (PcM G Y tF sz (w_X7_has Y h_t B_t t_n) [.ref h_t, .int x1]) (va_Qi (fun (r : Int32) (u : Unit) => K r ) (fun u t => BM G Y (va_A (w_X7_has Y h_t B_t t_n) sz) (w_X7_has Y h_t B_t t_n) t) (va_A (w_X7_has Y h_t B_t t_n) sz)) 0 0 (va_A (w_X7_has Y h_t B_t t_n) sz) := by
  refine Met.ofW (cc := cX7_has) (maxL := 2) (ret := (some .boolean)) (by decide) rfl ?_
  intro p e s m args below meth c s₁ B hml hv
  obtain ⟨rfl, hsz, hP, hK, hD0, hE⟩ := hv
  have hts := atoms_spec (ws := wsX7_has) B.pre
  have hown : s.vm.findClass RX7 = some m.cls := findClass_of_methodNamed B.named
  have hlocks := B.notSynchronized
  subst hsz
  have hD := hD0.self (sz := s.heap.size)
  exact wk_X7_has B.exec B.bytes hml hown hts hK hE (fun q h => Or.inr h) (Nat.le_refl _) (Nat.le_refl _) (fun r  H locs ls pc hP hD hS hz hk hd => W.zret (v := r) B.exec B.bytes B.returns hz.n (fun t ht hW => ⟨⟨r, (), rfl, hk, by rw [ht]; exact hP, va_K.moved hW.alike hK, hD⟩, hS.F ht⟩) hS.2.2 hd) hP hD h

abbrev w_X7_turned (Y : Nat → ClassId) (h_t : Nat) (B_t : Nat → Nat) (t_n : Int32) (t_cells : Nat → Int32) : va_W := [(h_t, .inr (6, [.ref (B_t 0), .int t_n])), ((B_t 0), .inl (Y 0, 64, .inl t_cells))]

def pX7_turned (t_cells : Nat → Int32) (x1 : Int32) (x2 : Int32) (K : Int32 → Prop) : Prop :=
  (vp_in ((x1 * (8 : Int32)) + x2) 64 ∧ (K (t_cells (Int32.toNatClampNeg ((x1 * (8 : Int32)) + x2)))))

set_option maxHeartbeats 4000000 in
set_option maxRecDepth 100000 in
theorem wk_X7_turned {p : Program} {l : Launch} {e : Env} {R : Room} {s : State} {m : MethodId} {args : Array Value} {below : List Frame} {meth : Method} {c : Code} {Q : State → Prop} {G : va_G} {Y : Nat → ClassId} {tF : Nat} {A : Nat → Prop} (h_t : Nat) (B_t : Nat → Nat) (t_n : Int32) (t_cells : Nat → Int32) (x1 : Int32) (x2 : Int32) {K : Int32 → Prop} (hx : p.tables.exec = Jvm.exec) (hb : c.code = cX7_turned) (hml : c.maxLocals = 3) (hown : s.vm.findClass RX7 = some m.cls) (hts : ∀ w ∈ wsX7_turned, w.before args s = true) (hK : va_K G vwCl (tyL Y) s) (hE : Ev A tF s) (hA : ∀ q, s.heap.size ≤ q → A q) (hRf : 0 ≤ R.frames) (hRl : 0 ≤ R.locals) (hret : ∀ (r : Int32)  (H : Heap) (locs : List Loc) (ls : Array Slot) (pc : Nat), va_P G vwCl (w_X7_turned Y h_t B_t t_n t_cells) H → va_D A (w_X7_turned Y h_t B_t t_n t_cells) → va_S A s.heap H locs → K r → decode cX7_turned pc = .ok (.ireturn, 1) → W p l e R s m args below meth c H locs 0 0 Q (F0 m pc ls [.int r])) (hP : va_P G vwCl (w_X7_turned Y h_t B_t t_n t_cells) s.heap) (hD : va_D A (w_X7_turned Y h_t B_t t_n t_cells)) (h : pX7_turned t_cells x1 x2 K) : W p l e R s m args below meth c s.heap [] 0 0 Q (entryFrame m ([.ref h_t, .int x1, .int x2] : List Value).toArray 3) := by
  have inX7 : ∀ w ∈ u_ws RX7 TX7 2, w ∈ wsX7_turned := by decide +kernel
  have hf9 := hts (.fieldLink RX7 9 "RackBench$Table" "cells" "[I") (by decide +kernel)
  have hS : va_S A s.heap s.heap [] := va_S.rf
  have hl := lv_entry ([.ref h_t, .int x1, .int x2]) (n := 3) (Nat.le_of_ble_eq_true rfl)
  rw [lg_entry_eq]
  generalize (lg_sl ([.ref h_t, .int x1, .int x2]) ++ List.replicate (3 - (lg_sl ([.ref h_t, .int x1, .int x2])).length) Slot.unset).toArray = ls at hl ⊢
  have hl : lv_has ls 3 [(0, .ref h_t), (1, .int x1), (2, .int x2)] := hl
  generalize hH0 : s.heap = H at hP ⊢
  have hS : va_S A s.heap H [] := by rw [← hH0]; exact va_S.rf
  clear hH0
  generalize ([] : List Loc) = locs at hS ⊢
  refine lv_aload_n hx hb dX7_turned_0 rfl (lv_at hl 0 rfl) ?_
  refine va_get (D := G) (ci := 6) (v := .ref (B_t 0)) (C := RX7) (T := TX7) (N := 2) hx hb hts inX7 hown hK hP 0 rfl rfl 0 (by decide) hf9 (fun _ h9 => h9) rfl dX7_turned_1 ?_
  refine lv_iload_n hx hb dX7_turned_4 rfl (lv_at hl 1 rfl) ?_
  refine lv_bipush (v := 8) hx hb dX7_turned_5 (by decide) ?_
  refine lv_imul hx hb dX7_turned_7 ?_
  refine lv_iload_n hx hb dX7_turned_8 rfl (lv_at hl 2 rfl) ?_
  refine lv_iadd hx hb dX7_turned_9 ?_
  obtain ⟨hin, h⟩ := h
  refine va_iald hx hb hK hP 1 0 rfl rfl hin dX7_turned_10 ?_
  exact hret (t_cells (Int32.toNatClampNeg ((x1 * (8 : Int32)) + x2)))  H locs ls _ hP hD hS h dX7_turned_11

set_option maxHeartbeats 4000000 in
set_option maxRecDepth 100000 in
theorem c_X7_turned (l : Launch) (G : va_G) (Y : Nat → ClassId) (tF sz : Nat) (h_t : Nat) (B_t : Nat → Nat) (t_n : Int32) (t_cells : Nat → Int32) (x1 : Int32) (x2 : Int32) {K : Int32 → Prop} (h : pX7_turned t_cells x1 x2 K) : Met l yX7_turned wsX7_turned ({ frames := 0, cells := 0, slots := 0, locals := 0 }) (PcM G Y tF sz (w_X7_turned Y h_t B_t t_n t_cells) [.ref h_t, .int x1, .int x2]) (va_Qi (fun (r : Int32) (u : Unit) => K r ) (fun u t => BM G Y (va_A (w_X7_turned Y h_t B_t t_n t_cells) sz) (w_X7_turned Y h_t B_t t_n t_cells) t) (va_A (w_X7_turned Y h_t B_t t_n t_cells) sz)) 0 0 (va_A (w_X7_turned Y h_t B_t t_n t_cells) sz) := by
  refine Met.ofW (cc := cX7_turned) (maxL := 3) (ret := (some .int)) (by decide) rfl ?_
  intro p e s m args below meth c s₁ B hml hv
  obtain ⟨rfl, hsz, hP, hK, hD0, hE⟩ := hv
  have hts := atoms_spec (ws := wsX7_turned) B.pre
  have hown : s.vm.findClass RX7 = some m.cls := findClass_of_methodNamed B.named
  have hlocks := B.notSynchronized
  subst hsz
  have hD := hD0.self (sz := s.heap.size)
  exact wk_X7_turned B.exec B.bytes hml hown hts hK hE (fun q h => Or.inr h) (Nat.le_refl _) (Nat.le_refl _) (fun r  H locs ls pc hP hD hS hk hd => W.iret (v := r) B.exec B.bytes B.returns (fun t ht hW => ⟨⟨r, (), rfl, hk, by rw [ht]; exact hP, va_K.moved hW.alike hK, hD⟩, hS.F ht⟩) hS.2.2 hd) hP hD h

abbrev w_X7_put (Y : Nat → ClassId) (h_t : Nat) (B_t : Nat → Nat) (t_n : Int32) (t_cells : Nat → Int32) : va_W := [(h_t, .inr (6, [.ref (B_t 0), .int t_n])), ((B_t 0), .inl (Y 0, 64, .inl t_cells))]

def pX7_put (t_cells : Nat → Int32) (x1 : Int32) (x2 : Int32) (x3 : Int32) (K : (Nat → Int32) → Prop) : Prop :=
  (vp_in ((x1 * (8 : Int32)) + x2) 64 ∧ (K (upd t_cells (Int32.toNatClampNeg ((x1 * (8 : Int32)) + x2)) x3)))

set_option maxHeartbeats 4000000 in
set_option maxRecDepth 100000 in
theorem wk_X7_put {p : Program} {l : Launch} {e : Env} {R : Room} {s : State} {m : MethodId} {args : Array Value} {below : List Frame} {meth : Method} {c : Code} {Q : State → Prop} {G : va_G} {Y : Nat → ClassId} {tF : Nat} {A : Nat → Prop} (h_t : Nat) (B_t : Nat → Nat) (t_n : Int32) (t_cells : Nat → Int32) (x1 : Int32) (x2 : Int32) (x3 : Int32) {K : (Nat → Int32) → Prop} (hx : p.tables.exec = Jvm.exec) (hb : c.code = cX7_put) (hml : c.maxLocals = 4) (hown : s.vm.findClass RX7 = some m.cls) (hts : ∀ w ∈ wsX7_put, w.before args s = true) (hK : va_K G vwCl (tyL Y) s) (hE : Ev A tF s) (hA : ∀ q, s.heap.size ≤ q → A q) (hRf : 0 ≤ R.frames) (hRl : 0 ≤ R.locals) (hret : ∀ (t_cells : Nat → Int32) (H : Heap) (locs : List Loc) (ls : Array Slot) (pc : Nat), va_P G vwCl (w_X7_put Y h_t B_t t_n t_cells) H → va_D A (w_X7_put Y h_t B_t t_n t_cells) → va_S A s.heap H locs → K t_cells → decode cX7_put pc = .ok (.return_, 1) → W p l e R s m args below meth c H locs 0 0 Q (F0 m pc ls [])) (hP : va_P G vwCl (w_X7_put Y h_t B_t t_n t_cells) s.heap) (hD : va_D A (w_X7_put Y h_t B_t t_n t_cells)) (h : pX7_put t_cells x1 x2 x3 K) : W p l e R s m args below meth c s.heap [] 0 0 Q (entryFrame m ([.ref h_t, .int x1, .int x2, .int x3] : List Value).toArray 4) := by
  have inX7 : ∀ w ∈ u_ws RX7 TX7 2, w ∈ wsX7_put := by decide +kernel
  have hf9 := hts (.fieldLink RX7 9 "RackBench$Table" "cells" "[I") (by decide +kernel)
  have hS : va_S A s.heap s.heap [] := va_S.rf
  have hl := lv_entry ([.ref h_t, .int x1, .int x2, .int x3]) (n := 4) (Nat.le_of_ble_eq_true rfl)
  rw [lg_entry_eq]
  generalize (lg_sl ([.ref h_t, .int x1, .int x2, .int x3]) ++ List.replicate (4 - (lg_sl ([.ref h_t, .int x1, .int x2, .int x3])).length) Slot.unset).toArray = ls at hl ⊢
  have hl : lv_has ls 4 [(0, .ref h_t), (1, .int x1), (2, .int x2), (3, .int x3)] := hl
  generalize hH0 : s.heap = H at hP ⊢
  have hS : va_S A s.heap H [] := by rw [← hH0]; exact va_S.rf
  clear hH0
  generalize ([] : List Loc) = locs at hS ⊢
  refine lv_aload_n hx hb dX7_put_0 rfl (lv_at hl 0 rfl) ?_
  refine va_get (D := G) (ci := 6) (v := .ref (B_t 0)) (C := RX7) (T := TX7) (N := 2) hx hb hts inX7 hown hK hP 0 rfl rfl 0 (by decide) hf9 (fun _ h9 => h9) rfl dX7_put_1 ?_
  refine lv_iload_n hx hb dX7_put_4 rfl (lv_at hl 1 rfl) ?_
  refine lv_bipush (v := 8) hx hb dX7_put_5 (by decide) ?_
  refine lv_imul hx hb dX7_put_7 ?_
  refine lv_iload_n hx hb dX7_put_8 rfl (lv_at hl 2 rfl) ?_
  refine lv_iadd hx hb dX7_put_9 ?_
  refine lv_iload_n hx hb dX7_put_10 rfl (lv_at hl 3 rfl) ?_
  obtain ⟨hin, h⟩ := h
  refine va_iast hx hb hK hP hD hS 1 0 rfl rfl hin dX7_put_11 (fun H locs hP hD hS => ?_)
  have hP : va_P G vwCl (w_X7_put Y h_t B_t t_n (upd t_cells (Int32.toNatClampNeg ((x1 * (8 : Int32)) + x2)) x3)) H := hP
  have hD : va_D A (w_X7_put Y h_t B_t t_n (upd t_cells (Int32.toNatClampNeg ((x1 * (8 : Int32)) + x2)) x3)) := hD
  exact hret (upd t_cells (Int32.toNatClampNeg ((x1 * (8 : Int32)) + x2)) x3) H locs ls _ hP hD hS h dX7_put_12

set_option maxHeartbeats 4000000 in
set_option maxRecDepth 100000 in
theorem c_X7_put (l : Launch) (G : va_G) (Y : Nat → ClassId) (tF sz : Nat) (h_t : Nat) (B_t : Nat → Nat) (t_n : Int32) (t_cells : Nat → Int32) (x1 : Int32) (x2 : Int32) (x3 : Int32) {K : (Nat → Int32) → Prop} (h : pX7_put t_cells x1 x2 x3 K) : Met l yX7_put wsX7_put ({ frames := 0, cells := 0, slots := 0, locals := 0 }) (PcM G Y tF sz (w_X7_put Y h_t B_t t_n t_cells) [.ref h_t, .int x1, .int x2, .int x3]) (va_Qv (fun u : (Nat → Int32) => K u) (fun u t => BM G Y (va_A (w_X7_put Y h_t B_t t_n t_cells) sz) (w_X7_put Y h_t B_t t_n u) t) (va_A (w_X7_put Y h_t B_t t_n t_cells) sz)) 0 0 (va_A (w_X7_put Y h_t B_t t_n t_cells) sz) := by
  refine Met.ofW (cc := cX7_put) (maxL := 4) (ret := none) (by decide) rfl ?_
  intro p e s m args below meth c s₁ B hml hv
  obtain ⟨rfl, hsz, hP, hK, hD0, hE⟩ := hv
  have hts := atoms_spec (ws := wsX7_put) B.pre
  have hown : s.vm.findClass RX7 = some m.cls := findClass_of_methodNamed B.named
  have hlocks := B.notSynchronized
  subst hsz
  have hD := hD0.self (sz := s.heap.size)
  exact wk_X7_put B.exec B.bytes hml hown hts hK hE (fun q h => Or.inr h) (Nat.le_refl _) (Nat.le_refl _) (fun t_cells H locs ls pc hP hD hS hk hd => W.vret B.exec B.bytes B.returns (fun t ht hW => ⟨⟨t_cells, rfl, hk, by rw [ht]; exact hP, va_K.moved hW.alike hK, hD⟩, hS.F ht⟩) hS.2.2 hd) hP hD h

abbrev w_X7_putRow (Y : Nat → ClassId) (h_t : Nat) (B_t : Nat → Nat) (t_n : Int32) (t_cells : Nat → Int32) : va_W := [(h_t, .inr (6, [.ref (B_t 0), .int t_n])), ((B_t 0), .inl (Y 0, 64, .inl t_cells))]

def pX7_putRow_2 (t_n : Int32) (K : (Nat → Int32) → Prop) (x1 : Int32) (x2 : Int32) (x3 : Int32) (t_cells : Nat → Int32) (R2 : Int32 → (Nat → Int32) → Prop) : Prop :=
  ((t_n ≤ x3 → (K t_cells)) ∧ (¬ t_n ≤ x3 → (pX5_image x2 x3 (fun r15 => (pX7_put t_cells x1 x3 r15 (fun t_cells_18 => (R2 (x3 + 1) t_cells_18)))))))

def pX7_putRow (t_n : Int32) (t_cells : Nat → Int32) (x1 : Int32) (x2 : Int32) (K : (Nat → Int32) → Prop) : Prop :=
  (lpW2 (pX7_putRow_2 t_n K x1 x2) (0 : Int32) t_cells)

set_option maxHeartbeats 4000000 in
set_option maxRecDepth 100000 in
theorem wk_X7_putRow {p : Program} {l : Launch} {e : Env} {R : Room} {s : State} {m : MethodId} {args : Array Value} {below : List Frame} {meth : Method} {c : Code} {Q : State → Prop} {G : va_G} {Y : Nat → ClassId} {tF : Nat} {A : Nat → Prop} (h_t : Nat) (B_t : Nat → Nat) (t_n : Int32) (t_cells : Nat → Int32) (x1 : Int32) (x2 : Int32) {K : (Nat → Int32) → Prop} (hx : p.tables.exec = Jvm.exec) (hb : c.code = cX7_putRow) (hml : c.maxLocals = 4) (hown : s.vm.findClass RX7 = some m.cls) (hts : ∀ w ∈ wsX7_putRow, w.before args s = true) (hK : va_K G vwCl (tyL Y) s) (hE : Ev A tF s) (hA : ∀ q, s.heap.size ≤ q → A q) (hRf : 1 ≤ R.frames) (hRl : 23 ≤ R.locals) (hret : ∀ (t_cells : Nat → Int32) (H : Heap) (locs : List Loc) (ls : Array Slot) (pc : Nat), va_P G vwCl (w_X7_putRow Y h_t B_t t_n t_cells) H → va_D A (w_X7_putRow Y h_t B_t t_n t_cells) → va_S A s.heap H locs → K t_cells → decode cX7_putRow pc = .ok (.return_, 1) → W p l e R s m args below meth c H locs 0 0 Q (F0 m pc ls [])) (hP : va_P G vwCl (w_X7_putRow Y h_t B_t t_n t_cells) s.heap) (hD : va_D A (w_X7_putRow Y h_t B_t t_n t_cells)) (h : pX7_putRow t_n t_cells x1 x2 K) : W p l e R s m args below meth c s.heap [] 0 0 Q (entryFrame m ([.ref h_t, .int x1, .int x2] : List Value).toArray 4) := by
  have inX7 : ∀ w ∈ u_ws RX7 TX7 2, w ∈ wsX7_putRow := by decide +kernel
  have hf15 := hts (.fieldLink RX7 15 "RackBench$Table" "n" "I") (by decide +kernel)
  have hS : va_S A s.heap s.heap [] := va_S.rf
  have hl := lv_entry ([.ref h_t, .int x1, .int x2]) (n := 4) (Nat.le_of_ble_eq_true rfl)
  rw [lg_entry_eq]
  generalize (lg_sl ([.ref h_t, .int x1, .int x2]) ++ List.replicate (4 - (lg_sl ([.ref h_t, .int x1, .int x2])).length) Slot.unset).toArray = ls at hl ⊢
  have hl : lv_has ls 4 [(0, .ref h_t), (1, .int x1), (2, .int x2)] := hl
  generalize hH0 : s.heap = H at hP ⊢
  have hS : va_S A s.heap H [] := by rw [← hH0]; exact va_S.rf
  clear hH0
  generalize ([] : List Loc) = locs at hS ⊢
  refine lv_iconst (v := 0) hx hb dX7_putRow_0 (by decide) ?_
  refine lv_istore_n (lv' := [(3, .int (0 : Int32)), (0, .ref h_t), (1, .int x1), (2, .int x2)]) hx hb dX7_putRow_1 rfl hl (by decide) rfl (fun ls hl => ?_)
  obtain ⟨I2, m2, hI2, hB2⟩ := h
  have L2 : ∀ (x1 : Int32) (x2 : Int32) (I2 : Int32 → (Nat → Int32) → Prop) (m2 : Int32 → (Nat → Int32) → Nat), (∀ (x3 : Int32) (t_cells : Nat → Int32), I2 x3 t_cells → pX7_putRow_2 t_n K x1 x2 x3 t_cells (fun x3' t_cells' => I2 x3' t_cells' ∧ m2 x3' t_cells' < m2 x3 t_cells)) → ∀ (n : Nat) (x3 : Int32) (t_cells : Nat → Int32) (H : Heap) (locs : List Loc) (ls : Array Slot), I2 x3 t_cells → m2 x3 t_cells < n → va_P G vwCl (w_X7_putRow Y h_t B_t t_n t_cells) H → va_D A (w_X7_putRow Y h_t B_t t_n t_cells) → va_S A s.heap H locs → lv_has ls 4 [(0, .ref h_t), (1, .int x1), (2, .int x2), (3, .int x3)] → W p l e R s m args below meth c H locs 0 0 Q (F0 m 2 ls []) := by
    intro x1 x2 I2 m2 hB2 n
    induction n with
    | zero => intro x3 t_cells H locs ls _ hm; exact absurd hm (Nat.not_lt_zero _)
    | succ n ih =>
      intro x3 t_cells H locs ls hI hm hP hD hS hl
      obtain ⟨R2, h, rec2⟩ : ∃ R2 : Int32 → (Nat → Int32) → Prop, pX7_putRow_2 t_n K x1 x2 x3 t_cells R2 ∧ ∀ (x3 : Int32) (t_cells : Nat → Int32) (H : Heap) (locs : List Loc) (ls : Array Slot), R2 x3 t_cells → va_P G vwCl (w_X7_putRow Y h_t B_t t_n t_cells) H → va_D A (w_X7_putRow Y h_t B_t t_n t_cells) → va_S A s.heap H locs → lv_has ls 4 [(0, .ref h_t), (1, .int x1), (2, .int x2), (3, .int x3)] → W p l e R s m args below meth c H locs 0 0 Q (F0 m 2 ls []) := ⟨_, hB2 x3 t_cells hI, fun x3 t_cells H locs ls hh hP hD hS hl => ih x3 t_cells H locs ls hh.1 (Nat.lt_of_lt_of_le hh.2 (Nat.le_of_lt_succ hm)) hP hD hS hl⟩
      refine lv_iload_n hx hb dX7_putRow_2 rfl (lv_at hl 3 rfl) ?_
      refine lv_aload_n hx hb dX7_putRow_3 rfl (lv_at hl 0 rfl) ?_
      refine va_get (D := G) (ci := 6) (v := .int t_n) (C := RX7) (T := TX7) (N := 2) hx hb hts inX7 hown hK hP 0 rfl rfl 1 (by decide) hf15 (fun _ h9 => h9) rfl dX7_putRow_4 ?_
      obtain ⟨ht, hf⟩ := h
      refine lv_icmp_ge (tgt := 27) hx hb dX7_putRow_7 (by decide) (fun c9 => ?_) (fun c9 => ?_)
      · have h := ht c9
        exact hret t_cells H locs ls _ hP hD hS h dX7_putRow_27
      · have h := hf c9
        refine lv_aload_n hx hb dX7_putRow_10 rfl (lv_at hl 0 rfl) ?_
        refine lv_iload_n hx hb dX7_putRow_11 rfl (lv_at hl 1 rfl) ?_
        refine lv_iload_n hx hb dX7_putRow_12 rfl (lv_at hl 3 rfl) ?_
        refine lv_iload_n hx hb dX7_putRow_13 rfl (lv_at hl 2 rfl) ?_
        refine lv_iload_n hx hb dX7_putRow_14 rfl (lv_at hl 3 rfl) ?_
        refine mc_iS ⟨hx, hb, hml, hown, hts⟩ hK hE hA hP hD hS (c_X5_image l G Y tF H.size x2 x3 h) (va_cwS 2 hts gX7_putRow_X5_image rfl rfl rfl (by decide +kernel) ⟨Nat.le_trans (by decide) hRf, Nat.le_trans (by decide) hRl⟩) (fun u => (w_X7_putRow Y h_t B_t t_n t_cells)) [] [0, 1] [0, 1] rfl rfl rfl rfl (by decide) (fun _ => rfl) rfl rfl hl.1 rfl (by decide) dX7_putRow_15 (fun r15 u H locs h hP hD hS => ?_)
        dsimp only at h
        have hP : va_P G vwCl (w_X7_putRow Y h_t B_t t_n t_cells) H := hP
        have hD : va_D A (w_X7_putRow Y h_t B_t t_n t_cells) := hD
        refine mc_vV ⟨hx, hb, hml, hown, hts⟩ hK hE hA hP hD hS (c_X7_put l G Y tF H.size h_t B_t t_n t_cells x1 x3 r15 h) (cwV 3 hts gX7_putRow_X7_put rfl rfl rfl (by decide +kernel) ⟨Nat.le_trans (by decide) hRf, Nat.le_trans (by decide) hRl⟩) (fun u => (w_X7_putRow Y h_t B_t t_n u)) [0, 1] [] [0, 1] rfl rfl rfl rfl (by decide) (fun _ => rfl) rfl 0 6 rfl rfl rfl rfl hl.1 rfl (by decide) dX7_putRow_18 (fun u H locs h hP hD hS => ?_)
        obtain ⟨t_cells_18, rfl⟩ : ∃ z, z = u := ⟨_, rfl⟩
        dsimp only at h
        have hP : va_P G vwCl (w_X7_putRow Y h_t B_t t_n t_cells_18) H := hP
        have hD : va_D A (w_X7_putRow Y h_t B_t t_n t_cells_18) := hD
        refine lv_iinc (v := (x3 + 1)) (lv' := [(3, .int (x3 + 1)), (0, .ref h_t), (1, .int x1), (2, .int x2)]) hx hb dX7_putRow_21 hl (k := 3) rfl rfl (by decide) rfl (fun ls hl => ?_)
        refine lv_goto (tgt := 2) hx hb dX7_putRow_24 (by decide) ?_
        exact rec2 (x3 + 1) t_cells_18 H locs ls h hP hD hS (lv_sub hl [1, 2, 3, 0] rfl)
  exact L2 x1 x2 I2 m2 hB2 _ (0 : Int32) t_cells H locs ls hI2 (Nat.lt_succ_self _) hP hD hS (lv_sub hl [1, 2, 3, 0] rfl)

set_option maxHeartbeats 4000000 in
set_option maxRecDepth 100000 in
theorem c_X7_putRow (l : Launch) (G : va_G) (Y : Nat → ClassId) (tF sz : Nat) (h_t : Nat) (B_t : Nat → Nat) (t_n : Int32) (t_cells : Nat → Int32) (x1 : Int32) (x2 : Int32) {K : (Nat → Int32) → Prop} (h : pX7_putRow t_n t_cells x1 x2 K) : Met l yX7_putRow wsX7_putRow ({ frames := 1, cells := 0, slots := 0, locals := 23 }) (PcM G Y tF sz (w_X7_putRow Y h_t B_t t_n t_cells) [.ref h_t, .int x1, .int x2]) (va_Qv (fun u : (Nat → Int32) => K u) (fun u t => BM G Y (va_A (w_X7_putRow Y h_t B_t t_n t_cells) sz) (w_X7_putRow Y h_t B_t t_n u) t) (va_A (w_X7_putRow Y h_t B_t t_n t_cells) sz)) 0 0 (va_A (w_X7_putRow Y h_t B_t t_n t_cells) sz) := by
  refine Met.ofW (cc := cX7_putRow) (maxL := 4) (ret := none) (by decide) rfl ?_
  intro p e s m args below meth c s₁ B hml hv
  obtain ⟨rfl, hsz, hP, hK, hD0, hE⟩ := hv
  have hts := atoms_spec (ws := wsX7_putRow) B.pre
  have hown : s.vm.findClass RX7 = some m.cls := findClass_of_methodNamed B.named
  have hlocks := B.notSynchronized
  subst hsz
  have hD := hD0.self (sz := s.heap.size)
  exact wk_X7_putRow B.exec B.bytes hml hown hts hK hE (fun q h => Or.inr h) (Nat.le_refl _) (Nat.le_refl _) (fun t_cells H locs ls pc hP hD hS hk hd => W.vret B.exec B.bytes B.returns (fun t ht hW => ⟨⟨t_cells, rfl, hk, by rw [ht]; exact hP, va_K.moved hW.alike hK, hD⟩, hS.F ht⟩) hS.2.2 hd) hP hD h

abbrev w_X7_copy (Y : Nat → ClassId) (h_t : Nat) (h_p1 : Nat) (B_t : Nat → Nat) (B_p1 : Nat → Nat) (t_n : Int32) (t_cells : Nat → Int32) (p1_n : Int32) (p1_cells : Nat → Int32) : va_W := [(h_t, .inr (6, [.ref (B_t 0), .int t_n])), ((B_t 0), .inl (Y 0, 64, .inl t_cells)), (h_p1, .inr (6, [.ref (B_p1 0), .int p1_n])), ((B_p1 0), .inl (Y 0, 64, .inl p1_cells))]

def pX7_copy (t_n : Int32) (t_cells : Nat → Int32) (p1_n : Int32) (p1_cells : Nat → Int32) (K : Int32 → (Nat → Int32) → Prop) : Prop :=
  (K p1_n (va_cpy p1_cells t_cells (Int32.toNatClampNeg (0 : Int32)) (Int32.toNatClampNeg (0 : Int32)) (Int32.toNatClampNeg (64 : Int32))))

set_option maxHeartbeats 4000000 in
set_option maxRecDepth 100000 in
theorem wk_X7_copy {p : Program} {l : Launch} {e : Env} {R : Room} {s : State} {m : MethodId} {args : Array Value} {below : List Frame} {meth : Method} {c : Code} {Q : State → Prop} {G : va_G} {Y : Nat → ClassId} {tF : Nat} {A : Nat → Prop} (h_t : Nat) (h_p1 : Nat) (B_t : Nat → Nat) (B_p1 : Nat → Nat) (t_n : Int32) (t_cells : Nat → Int32) (p1_n : Int32) (p1_cells : Nat → Int32) {K : Int32 → (Nat → Int32) → Prop} (hx : p.tables.exec = Jvm.exec) (hb : c.code = cX7_copy) (hml : c.maxLocals = 2) (hown : s.vm.findClass RX7 = some m.cls) (hts : ∀ w ∈ wsX7_copy, w.before args s = true) (hK : va_K G vwCl (tyL Y) s) (hE : Ev A tF s) (hA : ∀ q, s.heap.size ≤ q → A q) (hRf : 1 ≤ R.frames) (hRl : 64 ≤ R.locals) (hret : ∀ (t_n : Int32) (t_cells : Nat → Int32) (H : Heap) (locs : List Loc) (ls : Array Slot) (pc : Nat), va_P G vwCl (w_X7_copy Y h_t h_p1 B_t B_p1 t_n t_cells p1_n p1_cells) H → va_D A (w_X7_copy Y h_t h_p1 B_t B_p1 t_n t_cells p1_n p1_cells) → va_S A s.heap H locs → K t_n t_cells → decode cX7_copy pc = .ok (.return_, 1) → W p l e R s m args below meth c H locs 0 0 Q (F0 m pc ls [])) (hP : va_P G vwCl (w_X7_copy Y h_t h_p1 B_t B_p1 t_n t_cells p1_n p1_cells) s.heap) (hD : va_D A (w_X7_copy Y h_t h_p1 B_t B_p1 t_n t_cells p1_n p1_cells)) (h : pX7_copy t_n t_cells p1_n p1_cells K) : W p l e R s m args below meth c s.heap [] 0 0 Q (entryFrame m ([.ref h_t, .ref h_p1] : List Value).toArray 2) := by
  have inX7 : ∀ w ∈ u_ws RX7 TX7 2, w ∈ wsX7_copy := by decide +kernel
  have hf15 := hts (.fieldLink RX7 15 "RackBench$Table" "n" "I") (by decide +kernel)
  have hf9 := hts (.fieldLink RX7 9 "RackBench$Table" "cells" "[I") (by decide +kernel)
  have hS : va_S A s.heap s.heap [] := va_S.rf
  have hl := lv_entry ([.ref h_t, .ref h_p1]) (n := 2) (Nat.le_of_ble_eq_true rfl)
  rw [lg_entry_eq]
  generalize (lg_sl ([.ref h_t, .ref h_p1]) ++ List.replicate (2 - (lg_sl ([.ref h_t, .ref h_p1])).length) Slot.unset).toArray = ls at hl ⊢
  have hl : lv_has ls 2 [(0, .ref h_t), (1, .ref h_p1)] := hl
  generalize hH0 : s.heap = H at hP ⊢
  have hS : va_S A s.heap H [] := by rw [← hH0]; exact va_S.rf
  clear hH0
  generalize ([] : List Loc) = locs at hS ⊢
  refine lv_aload_n hx hb dX7_copy_0 rfl (lv_at hl 0 rfl) ?_
  refine lv_aload_n hx hb dX7_copy_1 rfl (lv_at hl 1 rfl) ?_
  refine va_get (D := G) (ci := 6) (v := .int p1_n) (C := RX7) (T := TX7) (N := 2) hx hb hts inX7 hown hK hP 2 rfl rfl 1 (by decide) hf15 (fun _ h9 => h9) rfl dX7_copy_2 ?_
  refine va_put (D := G) (ci := 6) (v := .int p1_n) (ty := .int) (C := RX7) (T := TX7) (N := 2) hx hb hts inX7 tyX7 tyX7_ok nmX7 hown hK hP hD hS 0 rfl rfl 1 (by decide) hf15 (fun _ h9 => h9) rfl (by decide +kernel) rfl rfl (Nat.le_of_ble_eq_true rfl) dX7_copy_5 (fun H locs hP hD hS => ?_)
  have hP : va_P G vwCl (w_X7_copy Y h_t h_p1 B_t B_p1 p1_n t_cells p1_n p1_cells) H := hP
  have hD : va_D A (w_X7_copy Y h_t h_p1 B_t B_p1 p1_n t_cells p1_n p1_cells) := hD
  refine lv_aload_n hx hb dX7_copy_8 rfl (lv_at hl 1 rfl) ?_
  refine va_get (D := G) (ci := 6) (v := .ref (B_p1 0)) (C := RX7) (T := TX7) (N := 2) hx hb hts inX7 hown hK hP 2 rfl rfl 0 (by decide) hf9 (fun _ h9 => h9) rfl dX7_copy_9 ?_
  refine lv_iconst (v := 0) hx hb dX7_copy_12 (by decide) ?_
  refine lv_aload_n hx hb dX7_copy_13 rfl (lv_at hl 0 rfl) ?_
  refine va_get (D := G) (ci := 6) (v := .ref (B_t 0)) (C := RX7) (T := TX7) (N := 2) hx hb hts inX7 hown hK hP 0 rfl rfl 0 (by decide) hf9 (fun _ h9 => h9) rfl dX7_copy_14 ?_
  refine lv_iconst (v := 0) hx hb dX7_copy_17 (by decide) ?_
  refine lv_bipush (v := 64) hx hb dX7_copy_18 (by decide) ?_
  refine va_copyi hx hb (by rw [hml]; exact hl.1.symm) hown (hts (.methodLink RX7 29 arraycopyName) (by decide +kernel)) (hts (.native arraycopyName) (by decide +kernel)) (hts (.static arraycopyName) (by decide +kernel)) (hts (.initialized "java/lang/System") (by decide +kernel)) hK hP hD hS 3 1 0 0 rfl rfl rfl rfl rfl (by decide) (by decide) (by decide) (by decide) (by decide) (fun _ _ => rfl) (Nat.le_trans (by decide) hRf) (Nat.le_trans (by decide) hRl) dX7_copy_20 (fun H locs hP hD hS => ?_)
  have hP : va_P G vwCl (w_X7_copy Y h_t h_p1 B_t B_p1 p1_n (va_cpy p1_cells t_cells (Int32.toNatClampNeg (0 : Int32)) (Int32.toNatClampNeg (0 : Int32)) (Int32.toNatClampNeg (64 : Int32))) p1_n p1_cells) H := hP
  have hD : va_D A (w_X7_copy Y h_t h_p1 B_t B_p1 p1_n (va_cpy p1_cells t_cells (Int32.toNatClampNeg (0 : Int32)) (Int32.toNatClampNeg (0 : Int32)) (Int32.toNatClampNeg (64 : Int32))) p1_n p1_cells) := hD
  exact hret p1_n (va_cpy p1_cells t_cells (Int32.toNatClampNeg (0 : Int32)) (Int32.toNatClampNeg (0 : Int32)) (Int32.toNatClampNeg (64 : Int32))) H locs ls _ hP hD hS h dX7_copy_23

set_option maxHeartbeats 4000000 in
set_option maxRecDepth 100000 in
theorem c_X7_copy (l : Launch) (G : va_G) (Y : Nat → ClassId) (tF sz : Nat) (h_t : Nat) (h_p1 : Nat) (B_t : Nat → Nat) (B_p1 : Nat → Nat) (t_n : Int32) (t_cells : Nat → Int32) (p1_n : Int32) (p1_cells : Nat → Int32) {K : Int32 → (Nat → Int32) → Prop} (h : pX7_copy t_n t_cells p1_n p1_cells K) : Met l yX7_copy wsX7_copy ({ frames := 1, cells := 0, slots := 0, locals := 64 }) (PcM G Y tF sz (w_X7_copy Y h_t h_p1 B_t B_p1 t_n t_cells p1_n p1_cells) [.ref h_t, .ref h_p1]) (va_Qv (fun u : Int32 × (Nat → Int32) => K u.1 u.2) (fun u t => BM G Y (va_A (w_X7_copy Y h_t h_p1 B_t B_p1 t_n t_cells p1_n p1_cells) sz) (w_X7_copy Y h_t h_p1 B_t B_p1 u.1 u.2 p1_n p1_cells) t) (va_A (w_X7_copy Y h_t h_p1 B_t B_p1 t_n t_cells p1_n p1_cells) sz)) 0 0 (va_A (w_X7_copy Y h_t h_p1 B_t B_p1 t_n t_cells p1_n p1_cells) sz) := by
  refine Met.ofW (cc := cX7_copy) (maxL := 2) (ret := none) (by decide) rfl ?_
  intro p e s m args below meth c s₁ B hml hv
  obtain ⟨rfl, hsz, hP, hK, hD0, hE⟩ := hv
  have hts := atoms_spec (ws := wsX7_copy) B.pre
  have hown : s.vm.findClass RX7 = some m.cls := findClass_of_methodNamed B.named
  have hlocks := B.notSynchronized
  subst hsz
  have hD := hD0.self (sz := s.heap.size)
  exact wk_X7_copy B.exec B.bytes hml hown hts hK hE (fun q h => Or.inr h) (Nat.le_refl _) (Nat.le_refl _) (fun t_n t_cells H locs ls pc hP hD hS hk hd => W.vret B.exec B.bytes B.returns (fun t ht hW => ⟨⟨(t_n, t_cells), rfl, hk, by rw [ht]; exact hP, va_K.moved hW.alike hK, hD⟩, hS.F ht⟩) hS.2.2 hd) hP hD h

abbrev w_X7_firstTornRow (Y : Nat → ClassId) (h_t : Nat) (B_t : Nat → Nat) (t_n : Int32) (t_cells : Nat → Int32) : va_W := [(h_t, .inr (6, [.ref (B_t 0), .int t_n])), ((B_t 0), .inl (Y 0, 64, .inl t_cells))]

def pX7_firstTornRow_24 (t_n : Int32) (t_cells : Nat → Int32) (R11 : Int32 → Prop) (K : Int32 → Prop) (x1 : Int32) (x2 : Int32) (x3 : Int32) (x4 : Int32) (R24 : Int32 → Int32 → Prop) : Prop :=
  ((t_n ≤ x4 → ((x3 = x1 → (R11 (x2 + 1))) ∧ (¬ x3 = x1 → (K x2)))) ∧ (¬ t_n ≤ x4 → (pX7_turned t_cells x2 x4 (fun r39 => (R24 (x3 ||| ((1 : Int32) <<< (r39 &&& 31))) (x4 + 1))))))

def pX7_firstTornRow_11 (t_n : Int32) (t_cells : Nat → Int32) (K : Int32 → Prop) (x1 : Int32) (x2 : Int32) (R11 : Int32 → Prop) : Prop :=
  ((t_n ≤ x2 → (K (-1 : Int32))) ∧ (¬ t_n ≤ x2 → (lpW2 (pX7_firstTornRow_24 t_n t_cells R11 K x1 x2) (0 : Int32) (0 : Int32))))

def pX7_firstTornRow (t_n : Int32) (t_cells : Nat → Int32) (K : Int32 → Prop) : Prop :=
  (lpW1 (pX7_firstTornRow_11 t_n t_cells K (((1 : Int32) <<< (t_n &&& 31)) - (1 : Int32))) (0 : Int32))

set_option maxHeartbeats 4000000 in
set_option maxRecDepth 100000 in
theorem wk_X7_firstTornRow {p : Program} {l : Launch} {e : Env} {R : Room} {s : State} {m : MethodId} {args : Array Value} {below : List Frame} {meth : Method} {c : Code} {Q : State → Prop} {G : va_G} {Y : Nat → ClassId} {tF : Nat} {A : Nat → Prop} (h_t : Nat) (B_t : Nat → Nat) (t_n : Int32) (t_cells : Nat → Int32) {K : Int32 → Prop} (hx : p.tables.exec = Jvm.exec) (hb : c.code = cX7_firstTornRow) (hml : c.maxLocals = 5) (hown : s.vm.findClass RX7 = some m.cls) (hts : ∀ w ∈ wsX7_firstTornRow, w.before args s = true) (hK : va_K G vwCl (tyL Y) s) (hE : Ev A tF s) (hA : ∀ q, s.heap.size ≤ q → A q) (hRf : 1 ≤ R.frames) (hRl : 22 ≤ R.locals) (hret : ∀ (r : Int32)  (H : Heap) (locs : List Loc) (ls : Array Slot) (pc : Nat), va_P G vwCl (w_X7_firstTornRow Y h_t B_t t_n t_cells) H → va_D A (w_X7_firstTornRow Y h_t B_t t_n t_cells) → va_S A s.heap H locs → K r → decode cX7_firstTornRow pc = .ok (.ireturn, 1) → W p l e R s m args below meth c H locs 0 0 Q (F0 m pc ls [.int r])) (hP : va_P G vwCl (w_X7_firstTornRow Y h_t B_t t_n t_cells) s.heap) (hD : va_D A (w_X7_firstTornRow Y h_t B_t t_n t_cells)) (h : pX7_firstTornRow t_n t_cells K) : W p l e R s m args below meth c s.heap [] 0 0 Q (entryFrame m ([.ref h_t] : List Value).toArray 5) := by
  have inX7 : ∀ w ∈ u_ws RX7 TX7 2, w ∈ wsX7_firstTornRow := by decide +kernel
  have hf15 := hts (.fieldLink RX7 15 "RackBench$Table" "n" "I") (by decide +kernel)
  have hS : va_S A s.heap s.heap [] := va_S.rf
  have hl := lv_entry ([.ref h_t]) (n := 5) (Nat.le_of_ble_eq_true rfl)
  rw [lg_entry_eq]
  generalize (lg_sl ([.ref h_t]) ++ List.replicate (5 - (lg_sl ([.ref h_t])).length) Slot.unset).toArray = ls at hl ⊢
  have hl : lv_has ls 5 [(0, .ref h_t)] := hl
  generalize hH0 : s.heap = H at hP ⊢
  have hS : va_S A s.heap H [] := by rw [← hH0]; exact va_S.rf
  clear hH0
  generalize ([] : List Loc) = locs at hS ⊢
  refine lv_iconst (v := 1) hx hb dX7_firstTornRow_0 (by decide) ?_
  refine lv_aload_n hx hb dX7_firstTornRow_1 rfl (lv_at hl 0 rfl) ?_
  refine va_get (D := G) (ci := 6) (v := .int t_n) (C := RX7) (T := TX7) (N := 2) hx hb hts inX7 hown hK hP 0 rfl rfl 1 (by decide) hf15 (fun _ h9 => h9) rfl dX7_firstTornRow_2 ?_
  refine lv_ishl hx hb dX7_firstTornRow_5 ?_
  refine lv_iconst (v := 1) hx hb dX7_firstTornRow_6 (by decide) ?_
  refine lv_isub hx hb dX7_firstTornRow_7 ?_
  refine lv_istore_n (lv' := [(1, .int (((1 : Int32) <<< (t_n &&& 31)) - (1 : Int32))), (0, .ref h_t)]) hx hb dX7_firstTornRow_8 rfl hl (by decide) rfl (fun ls hl => ?_)
  refine lv_iconst (v := 0) hx hb dX7_firstTornRow_9 (by decide) ?_
  refine lv_istore_n (lv' := [(2, .int (0 : Int32)), (1, .int (((1 : Int32) <<< (t_n &&& 31)) - (1 : Int32))), (0, .ref h_t)]) hx hb dX7_firstTornRow_10 rfl hl (by decide) rfl (fun ls hl => ?_)
  obtain ⟨I11, m11, hI11, hB11⟩ := h
  have L11 : ∀ (x1 : Int32) (I11 : Int32 → Prop) (m11 : Int32 → Nat), (∀ (x2 : Int32), I11 x2 → pX7_firstTornRow_11 t_n t_cells K x1 x2 (fun x2' => I11 x2' ∧ m11 x2' < m11 x2)) → ∀ (n : Nat) (x2 : Int32) (H : Heap) (locs : List Loc) (ls : Array Slot), I11 x2 → m11 x2 < n → va_P G vwCl (w_X7_firstTornRow Y h_t B_t t_n t_cells) H → va_D A (w_X7_firstTornRow Y h_t B_t t_n t_cells) → va_S A s.heap H locs → lv_has ls 5 [(0, .ref h_t), (1, .int x1), (2, .int x2)] → W p l e R s m args below meth c H locs 0 0 Q (F0 m 11 ls []) := by
    intro x1 I11 m11 hB11 n
    induction n with
    | zero => intro x2 H locs ls _ hm; exact absurd hm (Nat.not_lt_zero _)
    | succ n ih =>
      intro x2 H locs ls hI hm hP hD hS hl
      obtain ⟨R11, h, rec11⟩ : ∃ R11 : Int32 → Prop, pX7_firstTornRow_11 t_n t_cells K x1 x2 R11 ∧ ∀ (x2 : Int32) (H : Heap) (locs : List Loc) (ls : Array Slot), R11 x2 → va_P G vwCl (w_X7_firstTornRow Y h_t B_t t_n t_cells) H → va_D A (w_X7_firstTornRow Y h_t B_t t_n t_cells) → va_S A s.heap H locs → lv_has ls 5 [(0, .ref h_t), (1, .int x1), (2, .int x2)] → W p l e R s m args below meth c H locs 0 0 Q (F0 m 11 ls []) := ⟨_, hB11 x2 hI, fun x2 H locs ls hh hP hD hS hl => ih x2 H locs ls hh.1 (Nat.lt_of_lt_of_le hh.2 (Nat.le_of_lt_succ hm)) hP hD hS hl⟩
      refine lv_iload_n hx hb dX7_firstTornRow_11 rfl (lv_at hl 2 rfl) ?_
      refine lv_aload_n hx hb dX7_firstTornRow_12 rfl (lv_at hl 0 rfl) ?_
      refine va_get (D := G) (ci := 6) (v := .int t_n) (C := RX7) (T := TX7) (N := 2) hx hb hts inX7 hown hK hP 0 rfl rfl 1 (by decide) hf15 (fun _ h9 => h9) rfl dX7_firstTornRow_13 ?_
      obtain ⟨ht, hf⟩ := h
      refine lv_icmp_ge (tgt := 64) hx hb dX7_firstTornRow_16 (by decide) (fun c9 => ?_) (fun c9 => ?_)
      · have h := ht c9
        refine lv_iconst (v := -1) hx hb dX7_firstTornRow_64 (by decide) ?_
        exact hret (-1 : Int32)  H locs ls _ hP hD hS h dX7_firstTornRow_65
      · have h := hf c9
        refine lv_iconst (v := 0) hx hb dX7_firstTornRow_19 (by decide) ?_
        refine lv_istore_n (lv' := [(3, .int (0 : Int32)), (0, .ref h_t), (1, .int x1), (2, .int x2)]) hx hb dX7_firstTornRow_20 rfl hl (by decide) rfl (fun ls hl => ?_)
        refine lv_iconst (v := 0) hx hb dX7_firstTornRow_21 (by decide) ?_
        refine lv_istore (lv' := [(4, .int (0 : Int32)), (3, .int (0 : Int32)), (0, .ref h_t), (1, .int x1), (2, .int x2)]) hx hb dX7_firstTornRow_22 hl (by decide) rfl (fun ls hl => ?_)
        obtain ⟨I24, m24, hI24, hB24⟩ := h
        have L24 : ∀ (x2 : Int32) (I24 : Int32 → Int32 → Prop) (m24 : Int32 → Int32 → Nat), (∀ (x3 : Int32) (x4 : Int32), I24 x3 x4 → pX7_firstTornRow_24 t_n t_cells R11 K x1 x2 x3 x4 (fun x3' x4' => I24 x3' x4' ∧ m24 x3' x4' < m24 x3 x4)) → ∀ (n : Nat) (x3 : Int32) (x4 : Int32) (H : Heap) (locs : List Loc) (ls : Array Slot), I24 x3 x4 → m24 x3 x4 < n → va_P G vwCl (w_X7_firstTornRow Y h_t B_t t_n t_cells) H → va_D A (w_X7_firstTornRow Y h_t B_t t_n t_cells) → va_S A s.heap H locs → lv_has ls 5 [(0, .ref h_t), (1, .int x1), (2, .int x2), (3, .int x3), (4, .int x4)] → W p l e R s m args below meth c H locs 0 0 Q (F0 m 24 ls []) := by
          intro x2 I24 m24 hB24 n
          induction n with
          | zero => intro x3 x4 H locs ls _ hm; exact absurd hm (Nat.not_lt_zero _)
          | succ n ih =>
            intro x3 x4 H locs ls hI hm hP hD hS hl
            obtain ⟨R24, h, rec24⟩ : ∃ R24 : Int32 → Int32 → Prop, pX7_firstTornRow_24 t_n t_cells R11 K x1 x2 x3 x4 R24 ∧ ∀ (x3 : Int32) (x4 : Int32) (H : Heap) (locs : List Loc) (ls : Array Slot), R24 x3 x4 → va_P G vwCl (w_X7_firstTornRow Y h_t B_t t_n t_cells) H → va_D A (w_X7_firstTornRow Y h_t B_t t_n t_cells) → va_S A s.heap H locs → lv_has ls 5 [(0, .ref h_t), (1, .int x1), (2, .int x2), (3, .int x3), (4, .int x4)] → W p l e R s m args below meth c H locs 0 0 Q (F0 m 24 ls []) := ⟨_, hB24 x3 x4 hI, fun x3 x4 H locs ls hh hP hD hS hl => ih x3 x4 H locs ls hh.1 (Nat.lt_of_lt_of_le hh.2 (Nat.le_of_lt_succ hm)) hP hD hS hl⟩
            refine lv_iload hx hb dX7_firstTornRow_24 (lv_at hl 4 rfl) ?_
            refine lv_aload_n hx hb dX7_firstTornRow_26 rfl (lv_at hl 0 rfl) ?_
            refine va_get (D := G) (ci := 6) (v := .int t_n) (C := RX7) (T := TX7) (N := 2) hx hb hts inX7 hown hK hP 0 rfl rfl 1 (by decide) hf15 (fun _ h9 => h9) rfl dX7_firstTornRow_27 ?_
            obtain ⟨ht, hf⟩ := h
            refine lv_icmp_ge (tgt := 51) hx hb dX7_firstTornRow_30 (by decide) (fun c9 => ?_) (fun c9 => ?_)
            · have h := ht c9
              refine lv_iload_n hx hb dX7_firstTornRow_51 rfl (lv_at hl 3 rfl) ?_
              refine lv_iload_n hx hb dX7_firstTornRow_52 rfl (lv_at hl 1 rfl) ?_
              obtain ⟨ht, hf⟩ := h
              refine lv_icmp_eq (tgt := 58) hx hb dX7_firstTornRow_53 (by decide) (fun c9 => ?_) (fun c9 => ?_)
              · have h := ht c9
                refine lv_iinc (v := (x2 + 1)) (lv' := [(2, .int (x2 + 1)), (0, .ref h_t), (1, .int x1), (3, .int x3), (4, .int x4)]) hx hb dX7_firstTornRow_58 hl (k := 2) rfl rfl (by decide) rfl (fun ls hl => ?_)
                refine lv_goto (tgt := 11) hx hb dX7_firstTornRow_61 (by decide) ?_
                exact rec11 (x2 + 1) H locs ls h hP hD hS (lv_sub hl [1, 2, 0] rfl)
              · have h := hf c9
                refine lv_iload_n hx hb dX7_firstTornRow_56 rfl (lv_at hl 2 rfl) ?_
                exact hret x2  H locs ls _ hP hD hS h dX7_firstTornRow_57
            · have h := hf c9
              refine lv_iload_n hx hb dX7_firstTornRow_33 rfl (lv_at hl 3 rfl) ?_
              refine lv_iconst (v := 1) hx hb dX7_firstTornRow_34 (by decide) ?_
              refine lv_aload_n hx hb dX7_firstTornRow_35 rfl (lv_at hl 0 rfl) ?_
              refine lv_iload_n hx hb dX7_firstTornRow_36 rfl (lv_at hl 2 rfl) ?_
              refine lv_iload hx hb dX7_firstTornRow_37 (lv_at hl 4 rfl) ?_
              refine mc_iV ⟨hx, hb, hml, hown, hts⟩ hK hE hA hP hD hS (c_X7_turned l G Y tF H.size h_t B_t t_n t_cells x2 x4 h) (cwV 2 hts gX7_firstTornRow_X7_turned rfl rfl rfl (by decide +kernel) ⟨Nat.le_trans (by decide) hRf, Nat.le_trans (by decide) hRl⟩) (fun u => (w_X7_firstTornRow Y h_t B_t t_n t_cells)) [0, 1] [] [0, 1] rfl rfl rfl rfl (by decide) (fun _ => rfl) rfl 0 6 rfl rfl rfl rfl hl.1 rfl (by decide) dX7_firstTornRow_39 (fun r39 u H locs h hP hD hS => ?_)
              dsimp only at h
              have hP : va_P G vwCl (w_X7_firstTornRow Y h_t B_t t_n t_cells) H := hP
              have hD : va_D A (w_X7_firstTornRow Y h_t B_t t_n t_cells) := hD
              refine lv_ishl hx hb dX7_firstTornRow_42 ?_
              refine lv_ior hx hb dX7_firstTornRow_43 ?_
              refine lv_istore_n (lv' := [(3, .int (x3 ||| ((1 : Int32) <<< (r39 &&& 31)))), (0, .ref h_t), (1, .int x1), (2, .int x2), (4, .int x4)]) hx hb dX7_firstTornRow_44 rfl hl (by decide) rfl (fun ls hl => ?_)
              refine lv_iinc (v := (x4 + 1)) (lv' := [(4, .int (x4 + 1)), (3, .int (x3 ||| ((1 : Int32) <<< (r39 &&& 31)))), (0, .ref h_t), (1, .int x1), (2, .int x2)]) hx hb dX7_firstTornRow_45 hl (k := 4) rfl rfl (by decide) rfl (fun ls hl => ?_)
              refine lv_goto (tgt := 24) hx hb dX7_firstTornRow_48 (by decide) ?_
              exact rec24 (x3 ||| ((1 : Int32) <<< (r39 &&& 31))) (x4 + 1) H locs ls h hP hD hS (lv_sub hl [2, 3, 4, 1, 0] rfl)
        exact L24 x2 I24 m24 hB24 _ (0 : Int32) (0 : Int32) H locs ls hI24 (Nat.lt_succ_self _) hP hD hS (lv_sub hl [2, 3, 4, 1, 0] rfl)
  exact L11 (((1 : Int32) <<< (t_n &&& 31)) - (1 : Int32)) I11 m11 hB11 _ (0 : Int32) H locs ls hI11 (Nat.lt_succ_self _) hP hD hS (lv_sub hl [2, 1, 0] rfl)

set_option maxHeartbeats 4000000 in
set_option maxRecDepth 100000 in
theorem c_X7_firstTornRow (l : Launch) (G : va_G) (Y : Nat → ClassId) (tF sz : Nat) (h_t : Nat) (B_t : Nat → Nat) (t_n : Int32) (t_cells : Nat → Int32) {K : Int32 → Prop} (h : pX7_firstTornRow t_n t_cells K) : Met l yX7_firstTornRow wsX7_firstTornRow ({ frames := 1, cells := 0, slots := 0, locals := 22 }) (PcM G Y tF sz (w_X7_firstTornRow Y h_t B_t t_n t_cells) [.ref h_t]) (va_Qi (fun (r : Int32) (u : Unit) => K r ) (fun u t => BM G Y (va_A (w_X7_firstTornRow Y h_t B_t t_n t_cells) sz) (w_X7_firstTornRow Y h_t B_t t_n t_cells) t) (va_A (w_X7_firstTornRow Y h_t B_t t_n t_cells) sz)) 0 0 (va_A (w_X7_firstTornRow Y h_t B_t t_n t_cells) sz) := by
  refine Met.ofW (cc := cX7_firstTornRow) (maxL := 5) (ret := (some .int)) (by decide) rfl ?_
  intro p e s m args below meth c s₁ B hml hv
  obtain ⟨rfl, hsz, hP, hK, hD0, hE⟩ := hv
  have hts := atoms_spec (ws := wsX7_firstTornRow) B.pre
  have hown : s.vm.findClass RX7 = some m.cls := findClass_of_methodNamed B.named
  have hlocks := B.notSynchronized
  subst hsz
  have hD := hD0.self (sz := s.heap.size)
  exact wk_X7_firstTornRow B.exec B.bytes hml hown hts hK hE (fun q h => Or.inr h) (Nat.le_refl _) (Nat.le_refl _) (fun r  H locs ls pc hP hD hS hk hd => W.iret (v := r) B.exec B.bytes B.returns (fun t ht hW => ⟨⟨r, (), rfl, hk, by rw [ht]; exact hP, va_K.moved hW.alike hK, hD⟩, hS.F ht⟩) hS.2.2 hd) hP hD h

abbrev w_X1_join (Y : Nat → ClassId) (h_t : Nat) (B_t : Nat → Nat) (t_n : Int32) (t_leader : Nat → Int32) : va_W := [(h_t, .inr (1, [.ref (B_t 0), .ref (B_t 1), .int t_n])), ((B_t 0), .inl (Y 0, 8, .inl t_leader))]

def pX1_join_36 (t_n : Int32) (K : Int32 → (Nat → Int32) → Prop) (x3 : Int32) (x4 : Int32) (x5 : Int32) (t_leader : Nat → Int32) (R36 : Int32 → (Nat → Int32) → Prop) : Prop :=
  ((t_n ≤ x5 → ((x3 = x4 → (zb (0 : Int32) ∧ K (0 : Int32) t_leader)) ∧ (¬ x3 = x4 → (zb (1 : Int32) ∧ K (1 : Int32) t_leader)))) ∧ (¬ t_n ≤ x5 → (vp_in x5 8 ∧ ((¬ (t_leader (Int32.toNatClampNeg x5)) = x4 → (R36 (x5 + 1) t_leader)) ∧ ((t_leader (Int32.toNatClampNeg x5)) = x4 → (vp_in x5 8 ∧ (R36 (x5 + 1) (upd t_leader (Int32.toNatClampNeg x5) x3))))))))

def pX1_join (t_n : Int32) (t_leader : Nat → Int32) (x1 : Int32) (x2 : Int32) (K : Int32 → (Nat → Int32) → Prop) : Prop :=
  (vp_in x1 8 ∧ (vp_in x2 8 ∧ (vp_in x1 8 ∧ (vp_in x2 8 ∧ (lpW2 (pX1_join_36 t_n K (if (t_leader (Int32.toNatClampNeg x2)) < (t_leader (Int32.toNatClampNeg x1)) then (t_leader (Int32.toNatClampNeg x2)) else (t_leader (Int32.toNatClampNeg x1))) (if (t_leader (Int32.toNatClampNeg x1)) < (t_leader (Int32.toNatClampNeg x2)) then (t_leader (Int32.toNatClampNeg x2)) else (t_leader (Int32.toNatClampNeg x1)))) (0 : Int32) t_leader)))))

set_option maxHeartbeats 4000000 in
set_option maxRecDepth 100000 in
theorem wk_X1_join {p : Program} {l : Launch} {e : Env} {R : Room} {s : State} {m : MethodId} {args : Array Value} {below : List Frame} {meth : Method} {c : Code} {Q : State → Prop} {G : va_G} {Y : Nat → ClassId} {tF : Nat} {A : Nat → Prop} (h_t : Nat) (B_t : Nat → Nat) (t_n : Int32) (t_leader : Nat → Int32) (x1 : Int32) (x2 : Int32) {K : Int32 → (Nat → Int32) → Prop} (hx : p.tables.exec = Jvm.exec) (hb : c.code = cX1_join) (hml : c.maxLocals = 6) (hown : s.vm.findClass RX1 = some m.cls) (hts : ∀ w ∈ wsX1_join, w.before args s = true) (hK : va_K G vwCl (tyL Y) s) (hE : Ev A tF s) (hA : ∀ q, s.heap.size ≤ q → A q) (hRf : 1 ≤ R.frames) (hRl : 24 ≤ R.locals) (hret : ∀ (r : Int32) (t_leader : Nat → Int32) (H : Heap) (locs : List Loc) (ls : Array Slot) (pc : Nat), va_P G vwCl (w_X1_join Y h_t B_t t_n t_leader) H → va_D A (w_X1_join Y h_t B_t t_n t_leader) → va_S A s.heap H locs → zb r → K r t_leader → decode cX1_join pc = .ok (.ireturn, 1) → W p l e R s m args below meth c H locs 0 0 Q (F0 m pc ls [.int r])) (hP : va_P G vwCl (w_X1_join Y h_t B_t t_n t_leader) s.heap) (hD : va_D A (w_X1_join Y h_t B_t t_n t_leader)) (h : pX1_join t_n t_leader x1 x2 K) : W p l e R s m args below meth c s.heap [] 0 0 Q (entryFrame m ([.ref h_t, .int x1, .int x2] : List Value).toArray 6) := by
  have inX1 : ∀ w ∈ u_ws RX1 TX1 3, w ∈ wsX1_join := by decide +kernel
  have hf18 := hts (.fieldLink RX1 18 "RackBench$Classes" "n" "I") (by decide +kernel)
  have hf9 := hts (.fieldLink RX1 9 "RackBench$Classes" "leader" "[I") (by decide +kernel)
  have hS : va_S A s.heap s.heap [] := va_S.rf
  have hl := lv_entry ([.ref h_t, .int x1, .int x2]) (n := 6) (Nat.le_of_ble_eq_true rfl)
  rw [lg_entry_eq]
  generalize (lg_sl ([.ref h_t, .int x1, .int x2]) ++ List.replicate (6 - (lg_sl ([.ref h_t, .int x1, .int x2])).length) Slot.unset).toArray = ls at hl ⊢
  have hl : lv_has ls 6 [(0, .ref h_t), (1, .int x1), (2, .int x2)] := hl
  generalize hH0 : s.heap = H at hP ⊢
  have hS : va_S A s.heap H [] := by rw [← hH0]; exact va_S.rf
  clear hH0
  generalize ([] : List Loc) = locs at hS ⊢
  refine lv_aload_n hx hb dX1_join_0 rfl (lv_at hl 0 rfl) ?_
  refine va_get (D := G) (ci := 1) (v := .ref (B_t 0)) (C := RX1) (T := TX1) (N := 3) hx hb hts inX1 hown hK hP 0 rfl rfl 0 (by decide) hf9 (fun _ h9 => h9) rfl dX1_join_1 ?_
  refine lv_iload_n hx hb dX1_join_4 rfl (lv_at hl 1 rfl) ?_
  obtain ⟨hin, h⟩ := h
  refine va_iald hx hb hK hP 1 0 rfl rfl hin dX1_join_5 ?_
  refine lv_aload_n hx hb dX1_join_6 rfl (lv_at hl 0 rfl) ?_
  refine va_get (D := G) (ci := 1) (v := .ref (B_t 0)) (C := RX1) (T := TX1) (N := 3) hx hb hts inX1 hown hK hP 0 rfl rfl 0 (by decide) hf9 (fun _ h9 => h9) rfl dX1_join_7 ?_
  refine lv_iload_n hx hb dX1_join_10 rfl (lv_at hl 2 rfl) ?_
  obtain ⟨hin, h⟩ := h
  refine va_iald hx hb hK hP 1 0 rfl rfl hin dX1_join_11 ?_
  refine va_mmin hx hb (by rw [hml]; exact hl.1.symm) hown (hts (.methodLink RX1 22 Lib.Math.min.name) (by decide +kernel)) (hts (.static Lib.Math.min.name) (by decide +kernel)) (hts (.initialized "java/lang/Math") (by decide +kernel)) (hts (.code Lib.Math.min.name Lib.Math.min.code 2 (some .int)) (by decide +kernel)) (Nat.le_trans (by decide) hRf) (Nat.le_trans (by decide) hRl) (Nat.zero_le _) (Nat.zero_le _) dX1_join_12 ?_
  refine lv_istore_n (lv' := [(3, .int (if (t_leader (Int32.toNatClampNeg x2)) < (t_leader (Int32.toNatClampNeg x1)) then (t_leader (Int32.toNatClampNeg x2)) else (t_leader (Int32.toNatClampNeg x1)))), (0, .ref h_t), (1, .int x1), (2, .int x2)]) hx hb dX1_join_15 rfl hl (by decide) rfl (fun ls hl => ?_)
  refine lv_aload_n hx hb dX1_join_16 rfl (lv_at hl 1 rfl) ?_
  refine va_get (D := G) (ci := 1) (v := .ref (B_t 0)) (C := RX1) (T := TX1) (N := 3) hx hb hts inX1 hown hK hP 0 rfl rfl 0 (by decide) hf9 (fun _ h9 => h9) rfl dX1_join_17 ?_
  refine lv_iload_n hx hb dX1_join_20 rfl (lv_at hl 2 rfl) ?_
  obtain ⟨hin, h⟩ := h
  refine va_iald hx hb hK hP 1 0 rfl rfl hin dX1_join_21 ?_
  refine lv_aload_n hx hb dX1_join_22 rfl (lv_at hl 1 rfl) ?_
  refine va_get (D := G) (ci := 1) (v := .ref (B_t 0)) (C := RX1) (T := TX1) (N := 3) hx hb hts inX1 hown hK hP 0 rfl rfl 0 (by decide) hf9 (fun _ h9 => h9) rfl dX1_join_23 ?_
  refine lv_iload_n hx hb dX1_join_26 rfl (lv_at hl 3 rfl) ?_
  obtain ⟨hin, h⟩ := h
  refine va_iald hx hb hK hP 1 0 rfl rfl hin dX1_join_27 ?_
  refine va_mmax hx hb (by rw [hml]; exact hl.1.symm) hown (hts (.methodLink RX1 28 Lib.Math.max.name) (by decide +kernel)) (hts (.static Lib.Math.max.name) (by decide +kernel)) (hts (.initialized "java/lang/Math") (by decide +kernel)) (hts (.code Lib.Math.max.name Lib.Math.max.code 2 (some .int)) (by decide +kernel)) (Nat.le_trans (by decide) hRf) (Nat.le_trans (by decide) hRl) (Nat.zero_le _) (Nat.zero_le _) dX1_join_28 ?_
  refine lv_istore (lv' := [(4, .int (if (t_leader (Int32.toNatClampNeg x1)) < (t_leader (Int32.toNatClampNeg x2)) then (t_leader (Int32.toNatClampNeg x2)) else (t_leader (Int32.toNatClampNeg x1)))), (3, .int (if (t_leader (Int32.toNatClampNeg x2)) < (t_leader (Int32.toNatClampNeg x1)) then (t_leader (Int32.toNatClampNeg x2)) else (t_leader (Int32.toNatClampNeg x1)))), (0, .ref h_t), (1, .int x1), (2, .int x2)]) hx hb dX1_join_31 hl (by decide) rfl (fun ls hl => ?_)
  refine lv_iconst (v := 0) hx hb dX1_join_33 (by decide) ?_
  refine lv_istore (lv' := [(5, .int (0 : Int32)), (4, .int (if (t_leader (Int32.toNatClampNeg x1)) < (t_leader (Int32.toNatClampNeg x2)) then (t_leader (Int32.toNatClampNeg x2)) else (t_leader (Int32.toNatClampNeg x1)))), (3, .int (if (t_leader (Int32.toNatClampNeg x2)) < (t_leader (Int32.toNatClampNeg x1)) then (t_leader (Int32.toNatClampNeg x2)) else (t_leader (Int32.toNatClampNeg x1)))), (0, .ref h_t), (1, .int x1), (2, .int x2)]) hx hb dX1_join_34 hl (by decide) rfl (fun ls hl => ?_)
  obtain ⟨I36, m36, hI36, hB36⟩ := h
  have L36 : ∀ (x3 : Int32) (x4 : Int32) (I36 : Int32 → (Nat → Int32) → Prop) (m36 : Int32 → (Nat → Int32) → Nat), (∀ (x5 : Int32) (t_leader : Nat → Int32), I36 x5 t_leader → pX1_join_36 t_n K x3 x4 x5 t_leader (fun x5' t_leader' => I36 x5' t_leader' ∧ m36 x5' t_leader' < m36 x5 t_leader)) → ∀ (n : Nat) (x5 : Int32) (t_leader : Nat → Int32) (H : Heap) (locs : List Loc) (ls : Array Slot), I36 x5 t_leader → m36 x5 t_leader < n → va_P G vwCl (w_X1_join Y h_t B_t t_n t_leader) H → va_D A (w_X1_join Y h_t B_t t_n t_leader) → va_S A s.heap H locs → lv_has ls 6 [(0, .ref h_t), (3, .int x3), (4, .int x4), (5, .int x5)] → W p l e R s m args below meth c H locs 0 0 Q (F0 m 36 ls []) := by
    intro x3 x4 I36 m36 hB36 n
    induction n with
    | zero => intro x5 t_leader H locs ls _ hm; exact absurd hm (Nat.not_lt_zero _)
    | succ n ih =>
      intro x5 t_leader H locs ls hI hm hP hD hS hl
      obtain ⟨R36, h, rec36⟩ : ∃ R36 : Int32 → (Nat → Int32) → Prop, pX1_join_36 t_n K x3 x4 x5 t_leader R36 ∧ ∀ (x5 : Int32) (t_leader : Nat → Int32) (H : Heap) (locs : List Loc) (ls : Array Slot), R36 x5 t_leader → va_P G vwCl (w_X1_join Y h_t B_t t_n t_leader) H → va_D A (w_X1_join Y h_t B_t t_n t_leader) → va_S A s.heap H locs → lv_has ls 6 [(0, .ref h_t), (3, .int x3), (4, .int x4), (5, .int x5)] → W p l e R s m args below meth c H locs 0 0 Q (F0 m 36 ls []) := ⟨_, hB36 x5 t_leader hI, fun x5 t_leader H locs ls hh hP hD hS hl => ih x5 t_leader H locs ls hh.1 (Nat.lt_of_lt_of_le hh.2 (Nat.le_of_lt_succ hm)) hP hD hS hl⟩
      refine lv_iload hx hb dX1_join_36 (lv_at hl 3 rfl) ?_
      refine lv_aload_n hx hb dX1_join_38 rfl (lv_at hl 0 rfl) ?_
      refine va_get (D := G) (ci := 1) (v := .int t_n) (C := RX1) (T := TX1) (N := 3) hx hb hts inX1 hown hK hP 0 rfl rfl 2 (by decide) hf18 (fun _ h9 => h9) rfl dX1_join_39 ?_
      obtain ⟨ht, hf⟩ := h
      refine lv_icmp_ge (tgt := 71) hx hb dX1_join_42 (by decide) (fun c9 => ?_) (fun c9 => ?_)
      · have h := ht c9
        refine lv_iload_n hx hb dX1_join_71 rfl (lv_at hl 1 rfl) ?_
        refine lv_iload hx hb dX1_join_72 (lv_at hl 2 rfl) ?_
        obtain ⟨ht, hf⟩ := h
        refine lv_icmp_eq (tgt := 81) hx hb dX1_join_74 (by decide) (fun c9 => ?_) (fun c9 => ?_)
        · have h := ht c9
          refine lv_iconst (v := 0) hx hb dX1_join_81 (by decide) ?_
          obtain ⟨hz, h⟩ := h
          exact hret (0 : Int32) t_leader H locs ls _ hP hD hS hz h dX1_join_82
        · have h := hf c9
          refine lv_iconst (v := 1) hx hb dX1_join_77 (by decide) ?_
          refine lv_goto (tgt := 82) hx hb dX1_join_78 (by decide) ?_
          obtain ⟨hz, h⟩ := h
          exact hret (1 : Int32) t_leader H locs ls _ hP hD hS hz h dX1_join_82
      · have h := hf c9
        refine lv_aload_n hx hb dX1_join_45 rfl (lv_at hl 0 rfl) ?_
        refine va_get (D := G) (ci := 1) (v := .ref (B_t 0)) (C := RX1) (T := TX1) (N := 3) hx hb hts inX1 hown hK hP 0 rfl rfl 0 (by decide) hf9 (fun _ h9 => h9) rfl dX1_join_46 ?_
        refine lv_iload hx hb dX1_join_49 (lv_at hl 3 rfl) ?_
        obtain ⟨hin, h⟩ := h
        refine va_iald hx hb hK hP 1 0 rfl rfl hin dX1_join_51 ?_
        refine lv_iload hx hb dX1_join_52 (lv_at hl 2 rfl) ?_
        obtain ⟨ht, hf⟩ := h
        refine lv_icmp_ne (tgt := 65) hx hb dX1_join_54 (by decide) (fun c9 => ?_) (fun c9 => ?_)
        · have h := ht c9
          refine lv_iinc (v := (x5 + 1)) (lv' := [(5, .int (x5 + 1)), (0, .ref h_t), (3, .int x3), (4, .int x4)]) hx hb dX1_join_65 hl (k := 3) rfl rfl (by decide) rfl (fun ls hl => ?_)
          refine lv_goto (tgt := 36) hx hb dX1_join_68 (by decide) ?_
          exact rec36 (x5 + 1) t_leader H locs ls h hP hD hS (lv_sub hl [1, 2, 3, 0] rfl)
        · have h := hf c9
          refine lv_aload_n hx hb dX1_join_57 rfl (lv_at hl 0 rfl) ?_
          refine va_get (D := G) (ci := 1) (v := .ref (B_t 0)) (C := RX1) (T := TX1) (N := 3) hx hb hts inX1 hown hK hP 0 rfl rfl 0 (by decide) hf9 (fun _ h9 => h9) rfl dX1_join_58 ?_
          refine lv_iload hx hb dX1_join_61 (lv_at hl 3 rfl) ?_
          refine lv_iload_n hx hb dX1_join_63 rfl (lv_at hl 1 rfl) ?_
          obtain ⟨hin, h⟩ := h
          refine va_iast hx hb hK hP hD hS 1 0 rfl rfl hin dX1_join_64 (fun H locs hP hD hS => ?_)
          have hP : va_P G vwCl (w_X1_join Y h_t B_t t_n (upd t_leader (Int32.toNatClampNeg x5) x3)) H := hP
          have hD : va_D A (w_X1_join Y h_t B_t t_n (upd t_leader (Int32.toNatClampNeg x5) x3)) := hD
          refine lv_iinc (v := (x5 + 1)) (lv' := [(5, .int (x5 + 1)), (0, .ref h_t), (3, .int x3), (4, .int x4)]) hx hb dX1_join_65 hl (k := 3) rfl rfl (by decide) rfl (fun ls hl => ?_)
          refine lv_goto (tgt := 36) hx hb dX1_join_68 (by decide) ?_
          exact rec36 (x5 + 1) (upd t_leader (Int32.toNatClampNeg x5) x3) H locs ls h hP hD hS (lv_sub hl [1, 2, 3, 0] rfl)
  exact L36 (if (t_leader (Int32.toNatClampNeg x2)) < (t_leader (Int32.toNatClampNeg x1)) then (t_leader (Int32.toNatClampNeg x2)) else (t_leader (Int32.toNatClampNeg x1))) (if (t_leader (Int32.toNatClampNeg x1)) < (t_leader (Int32.toNatClampNeg x2)) then (t_leader (Int32.toNatClampNeg x2)) else (t_leader (Int32.toNatClampNeg x1))) I36 m36 hB36 _ (0 : Int32) t_leader H locs ls hI36 (Nat.lt_succ_self _) hP hD hS (lv_sub hl [3, 2, 1, 0] rfl)

set_option maxHeartbeats 4000000 in
set_option maxRecDepth 100000 in
theorem c_X1_join (l : Launch) (G : va_G) (Y : Nat → ClassId) (tF sz : Nat) (h_t : Nat) (B_t : Nat → Nat) (t_n : Int32) (t_leader : Nat → Int32) (x1 : Int32) (x2 : Int32) {K : Int32 → (Nat → Int32) → Prop} (h : pX1_join t_n t_leader x1 x2 K) : Met l yX1_join wsX1_join ({ frames := 1, cells := 0, slots := 0, locals := 24 }) (PcM G Y tF sz (w_X1_join Y h_t B_t t_n t_leader) [.ref h_t, .int x1, .int x2]) (va_Qi (fun (r : Int32) (u : (Nat → Int32)) => K r u) (fun u t => BM G Y (va_A (w_X1_join Y h_t B_t t_n t_leader) sz) (w_X1_join Y h_t B_t t_n u) t) (va_A (w_X1_join Y h_t B_t t_n t_leader) sz)) 0 0 (va_A (w_X1_join Y h_t B_t t_n t_leader) sz) := by
  refine Met.ofW (cc := cX1_join) (maxL := 6) (ret := (some .boolean)) (by decide) rfl ?_
  intro p e s m args below meth c s₁ B hml hv
  obtain ⟨rfl, hsz, hP, hK, hD0, hE⟩ := hv
  have hts := atoms_spec (ws := wsX1_join) B.pre
  have hown : s.vm.findClass RX1 = some m.cls := findClass_of_methodNamed B.named
  have hlocks := B.notSynchronized
  subst hsz
  have hD := hD0.self (sz := s.heap.size)
  exact wk_X1_join B.exec B.bytes hml hown hts hK hE (fun q h => Or.inr h) (Nat.le_refl _) (Nat.le_refl _) (fun r t_leader H locs ls pc hP hD hS hz hk hd => W.zret (v := r) B.exec B.bytes B.returns hz.n (fun t ht hW => ⟨⟨r, t_leader, rfl, hk, by rw [ht]; exact hP, va_K.moved hW.alike hK, hD⟩, hS.F ht⟩) hS.2.2 hd) hP hD h
