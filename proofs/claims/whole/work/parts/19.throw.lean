/-! The two calls that throw, and the law's methods that catch. -/
abbrev nxE : String := "java/util/NoSuchElementException"
abbrev nxN : List String := ["java/lang/RuntimeException", "java/lang/Exception"]
/-- what is around, with what a throw needs -/
def EvX (A : Nat → Prop) (tF : Nat) (U : State) : Prop := Ev A tF U ∧ vx_Zq Bundle.tN "UNASSIGNED_STACK" Bundle.steD A U U.heap ∧ vx_Zq Bundle.tN "SUPPRESSED_SENTINEL" Bundle.listD A U U.heap ∧ (∃ a, vk_R RX10 109 "no such things" a U) ∧ (∃ a, vk_R RX10 276 "no such number in the row" a U) ∧ va_Nw (.declares (Bundle.initS "java/lang/RuntimeException")) U ∧ va_Nw (.declares (Bundle.initS "java/lang/Exception")) U ∧ va_Nw (.declares (Bundle.initS Bundle.tN)) U ∧ va_Nw (.castable "java/util/NoSuchElementException" "java/util/NoSuchElementException") U
theorem EvX.calling {A : Nat → Prop} {tF : Nat} {U : State} (g : JFrame) (mk : MethodId) (a : Array Value) (h : EvX A tF U) : EvX A tF (U.calling g mk a) := by
  obtain ⟨h1, h2, h3, ⟨a4, h4⟩, ⟨a5, h5⟩, h6, h7, h8, h9⟩ := h
  exact ⟨h1.calling g mk a, vx_Zq.moved (u := U) (U := U.calling g mk a) (Vm.Alike.refl U.vm) h2, vx_Zq.moved (u := U) (U := U.calling g mk a) (Vm.Alike.refl U.vm) h3, ⟨a4, vk_R.same (u := U) (U := U.calling g mk a) rfl h4⟩, ⟨a5, vk_R.same (u := U) (U := U.calling g mk a) rfl h5⟩, va_Nw.same rfl (u := U) (U := U.calling g mk a) rfl h6, va_Nw.same rfl (u := U) (U := U.calling g mk a) rfl h7, va_Nw.same rfl (u := U) (U := U.calling g mk a) rfl h8, va_Nw.same rfl (u := U) (U := U.calling g mk a) rfl h9⟩
theorem EvX.call {A B : Nat → Prop} {tF : Nat} {s U : State} {H : Heap} {locs : List Loc} (h : EvX A tF s) (hS : va_S A s.heap H locs) (hU : U.heap = H) (hW : s.WarmedH U.vm) (hB : ∀ q, B q → A q) : EvX B tF U := by
  obtain ⟨h1, h2, h3, ⟨a4, h4⟩, ⟨a5, h5⟩, h6, h7, h8, h9⟩ := h
  refine ⟨h1.call hS hU hW hB, ?_, ?_, ⟨a4, vk_R.warm hW h4⟩, ⟨a5, vk_R.warm hW h5⟩, va_Nw.warmD hW h6, va_Nw.warmD hW h7, va_Nw.warmD hW h8, va_Nw.warmC hW h9⟩
  · rw [hU]; exact ((h2.kept (fun a h1 h2 => hS.2.1 a h1 h2)).moved hW.alike).narrow hB
  · rw [hU]; exact ((h3.kept (fun a h1 h2 => hS.2.1 a h1 h2)).moved hW.alike).narrow hB
def PcX (G : va_G) (Y : Nat → ClassId) (tF sz : Nat) (ws : va_W) (av : List Value) : Array Value → State → Prop := va_Pc av (fun U => U.heap.size = sz ∧ va_P G vwCl ws U.heap ∧ va_K G vwCl (tyL Y) U ∧ va_D (fun _ => True) ws ∧ EvX (va_A ws sz) tF U)
theorem PcX.blind {G : va_G} {Y : Nat → ClassId} {tF sz : Nat} {ws : va_W} {av : List Value} : FrameBlind (PcX G Y tF sz ws av) := by
  intro a U g mk q
  obtain ⟨q0, q1, qP, qK, qD, qE⟩ := q
  exact ⟨q0, q1, qP, va_K.moved (u := U) (U := U.calling g mk a) (Vm.Alike.refl U.vm) qK, qD, qE.calling g mk a⟩
theorem mx_pre {s : State} {H : Heap} {locs : List Loc} {G : va_G} {Y : Nat → ClassId} {tF : Nat} {A : Nat → Prop} {ws wc : va_W} (hK : va_K G vwCl (tyL Y) s) (hE : EvX A tF s) (hA : ∀ q, s.heap.size ≤ q → A q) (hP : va_P G vwCl ws H) (hD : va_D A ws) (hS : va_S A s.heap H locs) (isC : List Nat) (hC : isC.map (fun i => ws[i]?) = wc.map some) (hn : va_nd isC = true) (av : List Value) : PreS s H (PcX G Y tF H.size wc av) av := by
  refine ⟨PcX.blind, fun U hU hW => ⟨rfl, by rw [hU], by rw [hU]; exact hP.sub isC (mp_fm _ _ _ hC), va_K.moved hW.alike hK, (hD.sub isC hn hC).weaken (fun _ _ _ _ => trivial), hE.call hS hU hW (va_free hD hS hA isC hC)⟩⟩
theorem ny_0 : decode prog_21_method_4_code 0 = .ok (.aload_n 0, 1) := by decide +kernel
theorem ny_1 : decode prog_21_method_4_code 1 = .ok (.aload_n 1, 1) := by decide +kernel
theorem ny_2 : decode prog_21_method_4_code 2 = .ok (.invokespecial 13, 3) := by decide +kernel
theorem ny_5 : decode prog_21_method_4_code 5 = .ok (.return_, 1) := by decide +kernel
theorem nx_good : ∀ w ∈ Cond.classLink RX10 107 "java/util/NoSuchElementException" :: Cond.initialized "java/util/NoSuchElementException" :: vy_atS RX10 111 "java/util/NoSuchElementException" 13 prog_21_method_4_code ["java/lang/RuntimeException", "java/lang/Exception"], vx_ot w = true := by decide +kernel
theorem nx_bad : ∀ w ∈ (vy_atS RX10 111 "java/util/NoSuchElementException" 13 prog_21_method_4_code ["java/lang/RuntimeException", "java/lang/Exception"]).filter (fun w => !goodWord w), w ∈ [Cond.declares (Bundle.initS "java/lang/RuntimeException"), Cond.declares (Bundle.initS "java/lang/Exception"), Cond.declares (Bundle.initS Bundle.tN), Cond.castable "java/util/NoSuchElementException" "java/util/NoSuchElementException"] := by decide +kernel
theorem nx_at {args : Array Value} {s : State} {A : Nat → Prop} {tF : Nat} (hE : EvX A tF s) (h1 : ∀ w ∈ nyW, w.before args s = true) : ∀ w ∈ vy_atS RX10 111 "java/util/NoSuchElementException" 13 prog_21_method_4_code ["java/lang/RuntimeException", "java/lang/Exception"], w.before args s = true := by
  obtain ⟨-, -, -, -, -, h6, h7, h8, h9⟩ := hE
  exact vx_hat h1 nx_bad (vx_c (va_Nw.use rfl h6) (vx_c (va_Nw.use rfl h7) (vx_c (va_Nw.use rfl h8) (vx_c (va_Nw.use rfl h9) vx_n))))
/-- the world behind a throw -/
theorem nx_end {s t : State} {H : Heap} {locs : List Loc} {G : va_G} {Y : Nat → ClassId} {A : Nat → Prop} {ws : va_W} {KX : Prop} (hk : KX) (hK : va_K G vwCl (tyL Y) s) (hP : va_P G vwCl ws H) (hD : va_D A ws) (hS : va_S A s.heap H locs) (hvm : s.vm.Alike t.vm) (hz : H.size ≤ t.heap.size) (hq : ∀ q : Nat, q < H.size → t.heap[q]? = H[q]?) : vx_X (fun _ : Unit => KX) (fun E _ t => E = "java/util/NoSuchElementException" ∧ BM G Y A ws t) A "java/util/NoSuchElementException" s t :=
  ⟨(), hk, ⟨rfl, hP.kept (fun k q h => hq q.1 (hP k q h).lt), va_K.moved hvm hK, hD⟩, Nat.le_trans hS.1 hz, fun q h1 h2 => (hq q (Nat.lt_of_lt_of_le h1 hS.1)).trans (hS.2.1 q h1 h2)⟩
def pX10_at (t_current_n : Int32) (t_current_cells : Nat → Int32) (x1 x2 : Int32) (K : Int32 → Prop) (KX : Prop) : Prop :=
  pX7_has t_current_n x1 (fun r5 => ((r5 = 0 → KX) ∧ (¬ r5 = 0 → pX7_has t_current_n x2 (fun r16 => ((¬ r16 = 0 → pX7_turned t_current_cells x1 x2 (fun r => K r)) ∧ (r16 = 0 → KX))))))
def pX10_row (t_toldCount : Int32) (t_told : Nat → Int32) (x1 : Int32) (K : Int32 → Prop) (KX : Prop) : Prop :=
  ((x1 < 0 → KX) ∧ (¬ x1 < 0 → ((x1 < t_toldCount → (vp_in x1 8 ∧ K (t_told (Int32.toNatClampNeg x1)))) ∧ (¬ x1 < t_toldCount → KX))))
set_option maxHeartbeats 4000000 in
set_option maxRecDepth 100000 in
theorem c_X10_at (l : Launch) (hl0 : l.stackTraces = false) (G : va_G) (Y : Nat → ClassId) (tF sz : Nat) (h_t : Nat) (B_t : Nat → Nat) (B_t_current : Nat → Nat) (t_toldCount : Int32) (t_current_n : Int32) (t_current_cells : Nat → Int32) (x1 : Int32) (x2 : Int32) {K : Int32 → Prop} {KX : Prop} (h : pX10_at t_current_n t_current_cells x1 x2 K KX) : vx_Met l yX10_at wsY_at ({ frames := 8, cells := 1, slots := 6, locals := 90 }) (PcX G Y tF sz (w_X10_set Y h_t B_t B_t_current t_toldCount t_current_n t_current_cells) [.ref h_t, .int x1, .int x2]) (va_Qi (fun (r : Int32) (_ : Unit) => K r) (fun _ t => BM G Y (va_A (w_X10_set Y h_t B_t B_t_current t_toldCount t_current_n t_current_cells) sz) (w_X10_set Y h_t B_t B_t_current t_toldCount t_current_n t_current_cells) t) (va_A (w_X10_set Y h_t B_t B_t_current t_toldCount t_current_n t_current_cells) sz)) (vx_X (fun _ : Unit => KX) (fun E _ t => E = "java/util/NoSuchElementException" ∧ BM G Y (va_A (w_X10_set Y h_t B_t B_t_current t_toldCount t_current_n t_current_cells) sz) (w_X10_set Y h_t B_t B_t_current t_toldCount t_current_n t_current_cells) t) (va_A (w_X10_set Y h_t B_t B_t_current t_toldCount t_current_n t_current_cells) sz)) 1 6 (va_A (w_X10_set Y h_t B_t B_t_current t_toldCount t_current_n t_current_cells) sz) := by
  refine vx_ofW (cc := cX10_at) (maxL := 3) (ret := some .int) (by decide +kernel) rfl ?_
  intro p e s m args below meth c s₁ B hml htb hv
  obtain ⟨rfl, hsz, hP, hK, hD0, hE⟩ := hv
  have hx := B.exec
  have hb := B.bytes
  have hts := atoms_spec (ws := wsY_at) B.pre
  have hown : s.vm.findClass RX10 = some m.cls := findClass_of_methodNamed B.named
  have hlocks := B.notSynchronized
  subst hsz
  have hD := hD0.self (sz := s.heap.size)
  generalize hAe : va_A (w_X10_set Y h_t B_t B_t_current t_toldCount t_current_n t_current_cells) s.heap.size = A at hD hE ⊢
  have hA : ∀ q : Nat, s.heap.size ≤ q → A q := fun q h => by rw [← hAe]; exact Or.inr h
  have inX10 : ∀ w ∈ u_ws RX10 TX10 15, w ∈ wsY_at := by decide +kernel
  have hf14 := hts (.fieldLink RX10 14 "RackBench" "current" "LRackBench$Table;") (by decide +kernel)
  have hl := lv_entry ([.ref h_t, .int x1, .int x2]) (n := 3) (Nat.le_of_ble_eq_true rfl)
  rw [lg_entry_eq]
  generalize (lg_sl ([.ref h_t, .int x1, .int x2]) ++ List.replicate (3 - (lg_sl ([.ref h_t, .int x1, .int x2])).length) Slot.unset).toArray = ls at hl ⊢
  have hl : lv_has ls 3 [(0, .ref h_t), (1, .int x1), (2, .int x2)] := hl
  generalize hH0 : s.heap = H at hP ⊢
  have hS : va_S A s.heap H [] := by rw [← hH0]; exact va_S.rf
  clear hH0
  generalize ([] : List Loc) = locs at hS ⊢
  obtain ⟨sa, hstr⟩ := hE.2.2.2.1
  have hat := nx_at hE (fun w hw => hts w (List.mem_cons_of_mem _ (List.mem_append_right _ hw)))
  have hcl := hts (.classLink RX10 107 "java/util/NoSuchElementException") (by decide +kernel)
  have hin0 := hts (.initialized "java/util/NoSuchElementException") (by decide +kernel)
  refine lv_aload_n hx hb dX10_at_0 rfl (lv_at hl 0 rfl) ?_
  refine va_get (D := G) (ci := 9) (v := .ref (B_t 0)) (C := RX10) (T := TX10) (N := 15) hx hb hts inX10 hown hK hP 0 rfl rfl 0 (by decide) hf14 (fun _ h9 => h9) rfl dX10_at_1 ?_
  refine lv_iload_n hx hb dX10_at_4 rfl (lv_at hl 1 rfl) ?_
  refine mc_iV ⟨hx, hb, hml, hown, hts⟩ hK hE.1 hA hP hD hS (c_X7_has l G Y tF H.size (B_t 0) B_t_current t_current_n x1 h) (cwV 1 hts gY_at_X7_has rfl rfl rfl (by decide +kernel) ⟨Nat.le_of_ble_eq_true rfl, Nat.le_of_ble_eq_true rfl⟩) (fun u => (w_X10_set Y h_t B_t B_t_current t_toldCount t_current_n t_current_cells)) [1] [0, 2] [0, 2, 1] rfl rfl rfl rfl (by decide) (fun _ => rfl) rfl 1 6 rfl rfl rfl rfl hl.1 rfl (Nat.le_of_ble_eq_true rfl) dX10_at_5 (fun r5 u H locs h hP hD hS => ?_)
  try dsimp only at h
  have hP : va_P G vwCl (w_X10_set Y h_t B_t B_t_current t_toldCount t_current_n t_current_cells) H := hP
  have hD : va_D A (w_X10_set Y h_t B_t B_t_current t_toldCount t_current_n t_current_cells) := hD
  obtain ⟨ht, hf⟩ := h
  refine lv_if_eq (tgt := 22) hx hb dX10_at_8 (by decide) (fun c9 => ?_) (fun c9 => ?_)
  · exact vy_throw (w := 2) hx hb hl0 (A := A) ny_0 ny_1 ny_2 ny_5 hown (by decide +kernel) (by decide +kernel) hcl hin0 hstr hat nx_good hE.2.1 hE.2.2.1 hS (hl.1.trans hml.symm) dX10_at_22 dX10_at_25 (Or.inl ⟨rfl, dX10_at_26⟩) dX10_at_28 dX10_at_31 (fun x hx => (htb x hx).elim) (Nat.le_of_ble_eq_true rfl) (Nat.le_of_ble_eq_true rfl) (Nat.le_of_ble_eq_true rfl) (Nat.le_of_ble_eq_true rfl) hlocks (fun t hvm hz hq => nx_end (ht c9) hK hP hD hS hvm hz hq) hS.2.2 (Nat.le_of_ble_eq_true rfl) (Nat.le_of_ble_eq_true rfl)
  · have h := hf c9
    refine lv_aload_n hx hb dX10_at_11 rfl (lv_at hl 0 rfl) ?_
    refine va_get (D := G) (ci := 9) (v := .ref (B_t 0)) (C := RX10) (T := TX10) (N := 15) hx hb hts inX10 hown hK hP 0 rfl rfl 0 (by decide) hf14 (fun _ h9 => h9) rfl dX10_at_12 ?_
    refine lv_iload_n hx hb dX10_at_15 rfl (lv_at hl 2 rfl) ?_
    refine mc_iV ⟨hx, hb, hml, hown, hts⟩ hK hE.1 hA hP hD hS (c_X7_has l G Y tF H.size (B_t 0) B_t_current t_current_n x2 h) (cwV 1 hts gY_at_X7_has rfl rfl rfl (by decide +kernel) ⟨Nat.le_of_ble_eq_true rfl, Nat.le_of_ble_eq_true rfl⟩) (fun u => (w_X10_set Y h_t B_t B_t_current t_toldCount t_current_n t_current_cells)) [1] [0, 2] [0, 2, 1] rfl rfl rfl rfl (by decide) (fun _ => rfl) rfl 1 6 rfl rfl rfl rfl hl.1 rfl (Nat.le_of_ble_eq_true rfl) dX10_at_16 (fun r16 u H locs h hP hD hS => ?_)
    try dsimp only at h
    have hP : va_P G vwCl (w_X10_set Y h_t B_t B_t_current t_toldCount t_current_n t_current_cells) H := hP
    have hD : va_D A (w_X10_set Y h_t B_t B_t_current t_toldCount t_current_n t_current_cells) := hD
    obtain ⟨ht, hf⟩ := h
    refine lv_if_ne (tgt := 32) hx hb dX10_at_19 (by decide) (fun c9 => ?_) (fun c9 => ?_)
    · have h := ht c9
      refine lv_aload_n hx hb dX10_at_32 rfl (lv_at hl 0 rfl) ?_
      refine va_get (D := G) (ci := 9) (v := .ref (B_t 0)) (C := RX10) (T := TX10) (N := 15) hx hb hts inX10 hown hK hP 0 rfl rfl 0 (by decide) hf14 (fun _ h9 => h9) rfl dX10_at_33 ?_
      refine lv_iload_n hx hb dX10_at_36 rfl (lv_at hl 1 rfl) ?_
      refine lv_iload_n hx hb dX10_at_37 rfl (lv_at hl 2 rfl) ?_
      refine mc_iV ⟨hx, hb, hml, hown, hts⟩ hK hE.1 hA hP hD hS (c_X7_turned l G Y tF H.size (B_t 0) B_t_current t_current_n t_current_cells x1 x2 h) (cwV 2 hts gY_at_X7_turned rfl rfl rfl (by decide +kernel) ⟨Nat.le_of_ble_eq_true rfl, Nat.le_of_ble_eq_true rfl⟩) (fun u => (w_X10_set Y h_t B_t B_t_current t_toldCount t_current_n t_current_cells)) [1, 2] [0] [0, 1, 2] rfl rfl rfl rfl (by decide) (fun _ => rfl) rfl 1 6 rfl rfl rfl rfl hl.1 rfl (Nat.le_of_ble_eq_true rfl) dX10_at_38 (fun r38 u H locs h hP hD hS => ?_)
      try dsimp only at h
      have hP : va_P G vwCl (w_X10_set Y h_t B_t B_t_current t_toldCount t_current_n t_current_cells) H := hP
      have hD : va_D A (w_X10_set Y h_t B_t B_t_current t_toldCount t_current_n t_current_cells) := hD
      refine W.widen (k := 1) (n := 6) (by omega) (by omega) ?_
      refine vx_ret ?_
      exact W.iret (v := r38) B.exec B.bytes B.returns (fun t ht hW => ⟨⟨r38, (), rfl, h, by rw [ht]; exact hP, va_K.moved hW.alike hK, hD⟩, hS.F ht⟩) hS.2.2 dX10_at_41
    · exact vy_throw (w := 2) hx hb hl0 (A := A) ny_0 ny_1 ny_2 ny_5 hown (by decide +kernel) (by decide +kernel) hcl hin0 hstr hat nx_good hE.2.1 hE.2.2.1 hS (hl.1.trans hml.symm) dX10_at_22 dX10_at_25 (Or.inl ⟨rfl, dX10_at_26⟩) dX10_at_28 dX10_at_31 (fun x hx => (htb x hx).elim) (Nat.le_of_ble_eq_true rfl) (Nat.le_of_ble_eq_true rfl) (Nat.le_of_ble_eq_true rfl) (Nat.le_of_ble_eq_true rfl) hlocks (fun t hvm hz hq => nx_end (hf c9) hK hP hD hS hvm hz hq) hS.2.2 (Nat.le_of_ble_eq_true rfl) (Nat.le_of_ble_eq_true rfl)
set_option maxHeartbeats 4000000 in
set_option maxRecDepth 100000 in
theorem c_X10_row (l : Launch) (hl0 : l.stackTraces = false) (G : va_G) (Y : Nat → ClassId) (tF sz : Nat) (h_t : Nat) (B_t : Nat → Nat) (t_toldCount : Int32) (t_told : Nat → Int32) (x1 : Int32) {K : Int32 → Prop} {KX : Prop} (h : pX10_row t_toldCount t_told x1 K KX) : vx_Met l yX10_row wsY_row ({ frames := 8, cells := 1, slots := 6, locals := 90 }) (PcX G Y tF sz (w_X10_tell Y h_t B_t t_toldCount t_told) [.ref h_t, .int x1]) (va_Qi (fun (r : Int32) (_ : Unit) => K r) (fun _ t => BM G Y (va_A (w_X10_tell Y h_t B_t t_toldCount t_told) sz) (w_X10_tell Y h_t B_t t_toldCount t_told) t) (va_A (w_X10_tell Y h_t B_t t_toldCount t_told) sz)) (vx_X (fun _ : Unit => KX) (fun E _ t => E = "java/util/NoSuchElementException" ∧ BM G Y (va_A (w_X10_tell Y h_t B_t t_toldCount t_told) sz) (w_X10_tell Y h_t B_t t_toldCount t_told) t) (va_A (w_X10_tell Y h_t B_t t_toldCount t_told) sz)) 1 6 (va_A (w_X10_tell Y h_t B_t t_toldCount t_told) sz) := by
  refine vx_ofW (cc := cX10_row) (maxL := 2) (ret := some .int) (by decide +kernel) rfl ?_
  intro p e s m args below meth c s₁ B hml htb hv
  obtain ⟨rfl, hsz, hP, hK, hD0, hE⟩ := hv
  have hx := B.exec
  have hb := B.bytes
  have hts := atoms_spec (ws := wsY_row) B.pre
  have hown : s.vm.findClass RX10 = some m.cls := findClass_of_methodNamed B.named
  have hlocks := B.notSynchronized
  subst hsz
  have hD := hD0.self (sz := s.heap.size)
  generalize hAe : va_A (w_X10_tell Y h_t B_t t_toldCount t_told) s.heap.size = A at hD hE ⊢
  have hA : ∀ q : Nat, s.heap.size ≤ q → A q := fun q h => by rw [← hAe]; exact Or.inr h
  have inX10 : ∀ w ∈ u_ws RX10 TX10 15, w ∈ wsY_row := by decide +kernel
  have hf91 := hts (.fieldLink RX10 91 "RackBench" "toldCount" "I") (by decide +kernel)
  have hf88 := hts (.fieldLink RX10 88 "RackBench" "told" "[I") (by decide +kernel)
  have hl := lv_entry ([.ref h_t, .int x1]) (n := 2) (Nat.le_of_ble_eq_true rfl)
  rw [lg_entry_eq]
  generalize (lg_sl ([.ref h_t, .int x1]) ++ List.replicate (2 - (lg_sl ([.ref h_t, .int x1])).length) Slot.unset).toArray = ls at hl ⊢
  have hl : lv_has ls 2 [(0, .ref h_t), (1, .int x1)] := hl
  generalize hH0 : s.heap = H at hP ⊢
  have hS : va_S A s.heap H [] := by rw [← hH0]; exact va_S.rf
  clear hH0
  generalize ([] : List Loc) = locs at hS ⊢
  obtain ⟨sa, hstr⟩ := hE.2.2.2.2.1
  have hat := nx_at hE (fun w hw => hts w (List.mem_cons_of_mem _ (List.mem_append_right _ hw)))
  have hcl := hts (.classLink RX10 107 "java/util/NoSuchElementException") (by decide +kernel)
  have hin0 := hts (.initialized "java/util/NoSuchElementException") (by decide +kernel)
  obtain ⟨ht, hf⟩ := h
  refine lv_iload_n hx hb dX10_row_0 rfl (lv_at hl 1 rfl) ?_
  refine lv_if_lt (tgt := 12) hx hb dX10_row_1 (by decide) (fun c9 => ?_) (fun c9 => ?_)
  · exact vy_throw (w := 3) hx hb hl0 (A := A) ny_0 ny_1 ny_2 ny_5 hown (by decide +kernel) (by decide +kernel) hcl hin0 hstr hat nx_good hE.2.1 hE.2.2.1 hS (hl.1.trans hml.symm) dX10_row_12 dX10_row_15 (Or.inr ⟨rfl, dX10_row_16⟩) dX10_row_19 dX10_row_22 (fun x hx => (htb x hx).elim) (Nat.le_of_ble_eq_true rfl) (Nat.le_of_ble_eq_true rfl) (Nat.le_of_ble_eq_true rfl) (Nat.le_of_ble_eq_true rfl) hlocks (fun t hvm hz hq => nx_end (ht c9) hK hP hD hS hvm hz hq) hS.2.2 (Nat.le_of_ble_eq_true rfl) (Nat.le_of_ble_eq_true rfl)
  · obtain ⟨ht2, hf2⟩ := hf c9
    refine lv_iload_n hx hb dX10_row_4 rfl (lv_at hl 1 rfl) ?_
    refine lv_aload_n hx hb dX10_row_5 rfl (lv_at hl 0 rfl) ?_
    refine va_get (D := G) (ci := 9) (v := .int t_toldCount) (C := RX10) (T := TX10) (N := 15) hx hb hts inX10 hown hK hP 0 rfl rfl 14 (by decide) hf91 (fun _ h9 => h9) rfl dX10_row_6 ?_
    refine lv_icmp_lt (tgt := 23) hx hb dX10_row_9 (by decide) (fun c8 => ?_) (fun c8 => ?_)
    · obtain ⟨hin, h⟩ := ht2 c8
      refine lv_aload_n hx hb dX10_row_23 rfl (lv_at hl 0 rfl) ?_
      refine va_get (D := G) (ci := 9) (v := .ref (B_t 13)) (C := RX10) (T := TX10) (N := 15) hx hb hts inX10 hown hK hP 0 rfl rfl 13 (by decide) hf88 (fun _ h9 => h9) rfl dX10_row_24 ?_
      refine lv_iload_n hx hb dX10_row_27 rfl (lv_at hl 1 rfl) ?_
      refine va_iald hx hb hK hP 1 0 rfl rfl hin dX10_row_28 ?_
      refine W.widen (k := 1) (n := 6) (by omega) (by omega) ?_
      refine vx_ret ?_
      exact W.iret (v := t_told (Int32.toNatClampNeg x1)) B.exec B.bytes B.returns (fun t ht hW => ⟨⟨_, (), rfl, h, by rw [ht]; exact hP, va_K.moved hW.alike hK, hD⟩, hS.F ht⟩) hS.2.2 dX10_row_29
    · exact vy_throw (w := 3) hx hb hl0 (A := A) ny_0 ny_1 ny_2 ny_5 hown (by decide +kernel) (by decide +kernel) hcl hin0 hstr hat nx_good hE.2.1 hE.2.2.1 hS (hl.1.trans hml.symm) dX10_row_12 dX10_row_15 (Or.inr ⟨rfl, dX10_row_16⟩) dX10_row_19 dX10_row_22 (fun x hx => (htb x hx).elim) (Nat.le_of_ble_eq_true rfl) (Nat.le_of_ble_eq_true rfl) (Nat.le_of_ble_eq_true rfl) (Nat.le_of_ble_eq_true rfl) hlocks (fun t hvm hz hq => nx_end (hf2 c8) hK hP hD hS hvm hz hq) hS.2.2 (Nat.le_of_ble_eq_true rfl) (Nat.le_of_ble_eq_true rfl)
