/-! Constructors: what is around them, and their calls. -/
theorem va_AOA.moved {ty : FieldType} {u U : State} (hvm : u.vm.Alike U.vm) (h : va_AOA ty u) : va_AOA ty U := by
  have h2 : (Cond.arrayOver (.array ty)).before #[] (u.setVm U.vm) = true := by rw [Cond.arrayOver_setVmC hvm]; exact h
  exact h2
def nestM : List (Nat × MethodName) := [(30, yX9_init), (37, yX0_init), (44, yX1_init), (51, yX3_init), (58, yX4_init), (65, yX8_init), (72, yX6_init), (79, yX2_init)]
def EvI (A : Nat → Prop) (tF : Nat) (U : State) : Prop := Ev A tF U ∧ (∀ (k : Nat) (q : Nat × MethodName), nestM[k]? = some q → va_Nw (.methodLinkNest RX10 q.1 q.2 "RackBench") U) ∧ va_AO "RackBench$Table" U ∧ va_AOA .int U
theorem EvI.calling {A : Nat → Prop} {tF : Nat} {U : State} (g : JFrame) (mk : MethodId) (a : Array Value) (h : EvI A tF U) : EvI A tF (U.calling g mk a) :=
  ⟨h.1.calling g mk a, fun k q hq => va_Nw.same rfl rfl (h.2.1 k q hq), va_AO.moved (u := U) (U := U.calling g mk a) (Vm.Alike.refl U.vm) h.2.2.1, va_AOA.moved (u := U) (U := U.calling g mk a) (Vm.Alike.refl U.vm) h.2.2.2⟩
theorem EvI.call {A B : Nat → Prop} {tF : Nat} {s U : State} {H : Heap} {locs : List Loc} (h : EvI A tF s) (hS : va_S A s.heap H locs) (hU : U.heap = H) (hW : s.WarmedH U.vm) (hB : ∀ q, B q → A q) : EvI B tF U :=
  ⟨h.1.call hS hU hW hB, fun k q hq => va_Nw.warmM hW (h.2.1 k q hq), h.2.2.1.moved hW.alike, h.2.2.2.moved hW.alike⟩
def PcI (G : va_G) (Y : Nat → ClassId) (tF sz : Nat) (ws : va_W) (av : List Value) : Array Value → State → Prop := va_Pc av (fun U => U.heap.size = sz ∧ va_P G vwCl ws U.heap ∧ va_K G vwCl (tyL Y) U ∧ va_D (fun _ => True) ws ∧ EvI (va_A ws sz) tF U)
theorem PcI.blind {G : va_G} {Y : Nat → ClassId} {tF sz : Nat} {ws : va_W} {av : List Value} : FrameBlind (PcI G Y tF sz ws av) := by
  intro a U g mk q
  obtain ⟨q0, q1, qP, qK, qD, qE⟩ := q
  exact ⟨q0, q1, qP, va_K.moved (u := U) (U := U.calling g mk a) (Vm.Alike.refl U.vm) qK, qD, qE.calling g mk a⟩
theorem ty_find {G : va_G} {cl : List vw_C} {tys : List (ClassId × FieldType)} {U : State} (h : va_K G cl tys U) (i : Nat) {c : ClassId} (hi : tys[i]? = some (c, .int)) : U.vm.findClass (FieldType.array .int).toString = some c := (h.2 i _ hi).2
theorem ty_one {G : va_G} {cl : List vw_C} {tys : List (ClassId × FieldType)} {U : State} {ty : FieldType} (h : va_K G cl tys U) (i j : Nat) {c c' : ClassId} (hi : tys[i]? = some (c, ty)) (hj : tys[j]? = some (c', ty)) : c' = c := by
  have a := (h.2 i _ hi).2
  have b := (h.2 j _ hj).2
  cases ty with
  | object C =>
    obtain ⟨_, _, _, _, _, a4⟩ := a
    obtain ⟨_, _, _, _, _, b4⟩ := b
    exact Option.some.inj (b4.symm.trans a4)
  | _ => exact Option.some.inj (b.symm.trans a)
theorem ty_oneO {G : va_G} {cl : List vw_C} {tys : List (ClassId × FieldType)} {U : State} {C : String} (h : va_K G cl tys U) (i j : Nat) {c c' : ClassId} (hi : tys[i]? = some (c, .object C)) (hj : tys[j]? = some (c', .object C)) : c' = c := ty_one h i j hi hj
theorem mn_nil (X : va_W) (f : Nat → va_E) : X ++ va_pl [] f = X := List.append_nil X
theorem mn_cell (c : ClassId) : Jvm.Free.Multi.innerC c 19 (defaultValue .int) = vp_cell c (19, .inl (fun _ => 0)) := by
  rw [vp_cell_i, ← arrV_new]
  rfl
theorem mn_rows5 (X : va_W) (f : Nat → va_E) (r : Nat → Nat) (e : va_E) : X ++ va_pl ([] ++ (List.range 5).map r) (vr_up f ((List.range 5).map r) e) = X ++ [(r 0, e), (r 1, e), (r 2, e), (r 3, e), (r 4, e)] := by
  congr 1
  simp [va_pl, vr_up, List.range, List.range.loop]
section MINIT
variable {p : Program} {l : Launch} {e : Env} {R : Room} {s : State} {m : MethodId} {args : Array Value} {below : List Frame} {meth : Method} {c : Code} {H : Heap} {locs : List Loc} {Q : State → Prop}
variable {cc : ByteArray} {pc nL cells slots mc ms : Nat} {ls : Array Slot} {rest st0 : List Value} {G : va_G} {Y : Nat → ClassId} {tF : Nat} {A : Nat → Prop} {ws wc : va_W} {Ts : List Cond} {own host : String}
variable {y : MethodName} {wsM : List Cond} {rm : Room} {bytes : ByteArray} {maxL n index : Nat} {As : List Value} {b : Addr} {S' : Type} {wf : S' → va_W}
theorem mi_pre (hK : va_K G vwCl (tyL Y) s) (hE : EvI A tF s) (hA : ∀ q, s.heap.size ≤ q → A q) (hP : va_P G vwCl ws H) (hD : va_D A ws) (hS : va_S A s.heap H locs) (isC : List Nat) (hC : isC.map (fun i => ws[i]?) = wc.map some) (hn : va_nd isC = true) (av : List Value) : PreS s H (PcI G Y tF H.size wc av) av := by
  refine ⟨PcI.blind, fun U hU hW => ⟨rfl, by rw [hU], by rw [hU]; exact hP.sub isC (mp_fm _ _ _ hC), va_K.moved hW.alike hK, (hD.sub isC hn hC).weaken (fun _ _ _ _ => trivial), hE.call hS hU hW (va_free hD hS hA isC hC)⟩⟩
theorem mi_post {wf : va_W} {H1 : Heap} {t : State} (hP : va_P G vwCl ws H) (hD : va_D A ws) (hS : va_S A s.heap H locs) (hA : ∀ q, s.heap.size ≤ q → A q) (isC isR : List Nat) (hC : isC.map (fun i => ws[i]?) = wc.map some) (hR : isR.map (fun i => ws[i]?) = (isR.filterMap (fun i => ws[i]?)).map some) (hnR : va_nd isR = true) (hdis : ∀ i ∈ isR, i ∉ isC)
    (ht : t.heap = H1) (hB : BM G Y (va_A wc H.size) wf t) (hk : ∀ q : Nat, q < H.size → ¬ va_A wc H.size q → H1[q]? = H[q]?) : va_P G vwCl (isR.filterMap (fun i => ws[i]?) ++ wf) H1 ∧ va_D A (isR.filterMap (fun i => ws[i]?) ++ wf) := by
  obtain ⟨hP1, -, hD1⟩ := hB
  rw [ht] at hP1
  exact va_join hP hD isC isR hC hR hnR hdis hk (va_free hD hS hA isC hC) hP1 hD1
theorem mc_I {post : S' → Prop} (S : CallFix p m c cc nL s args Ts own) (hK : va_K G vwCl (tyL Y) s) (hE : EvI A tF s) (hA : ∀ q, s.heap.size ≤ q → A q) (hP : va_P G vwCl ws H) (hD : va_D A ws) (hS : va_S A s.heap H locs)
    (hM : Met l y wsM rm (PcI G Y tF H.size wc (.ref b :: As)) (va_Qv post (fun u t => BM G Y (va_A wc H.size) (wf u) t) (va_A wc H.size)) mc ms (va_A wc H.size)) (cw : CallB R s args own index y bytes maxL none wsM rm mc ms n ∧ y.name = "<init>" ∧ (Cond.instanceMethod y).before args s = true)
    (isC isR : List Nat) (hC : isC.map (fun i => ws[i]?) = wc.map some) (hn : va_nd isC = true) (hR : isR.map (fun i => ws[i]?) = (isR.filterMap (fun i => ws[i]?)).map some) (hnR : va_nd isR = true) (hdis : ∀ i ∈ isR, i ∉ isC)
    (hlen : As.length = n) (hsize : ls.size = nL) (hst : st0 = As.reverse ++ .ref b :: rest) (hW : (rest.map fun v => v.category).sum ≤ 8) (hdg : decode cc pc = .ok (.invokespecial index, 3)) (hf : cells + mc ≤ R.cells ∧ slots + ms ≤ R.slots)
    (kk : ∀ (u : S') (H1 : Heap) (locs1 : List Loc), post u → va_P G vwCl (isR.filterMap (fun i => ws[i]?) ++ wf u) H1 → va_D A (isR.filterMap (fun i => ws[i]?) ++ wf u) → va_S A s.heap H1 locs1 → W p l e R s m args below meth c H1 locs1 (cells + mc) (slots + ms) Q (F0 m (pc + 3) ls rest)) : W p l e R s m args below meth c H locs cells slots Q (F0 m pc ls st0) := by
  have hp := mi_pre hK hE hA hP hD hS isC hC hn (.ref b :: As)
  have hF := va_free hD hS hA isC hC
  refine va_callv (va_runI S hM cw hp rfl hlen hsize hst (lv_room hW) hdg hf) hS (fun q _ h => hF q h) hF (fun u t H1 locs1 ht hvm hw hB hz1 hk1 hS1 => ?_)
  obtain ⟨a1, a2⟩ := mi_post hP hD hS hA isC isR hC hR hnR hdis ht hB hk1
  exact kk u H1 locs1 hw a1 a2 hS1
theorem mc_IN {post : S' → Prop} (S : CallFix p m c cc nL s args Ts own) (hK : va_K G vwCl (tyL Y) s) (hE : EvI A tF s) (hA : ∀ q, s.heap.size ≤ q → A q) (hP : va_P G vwCl ws H) (hD : va_D A ws) (hS : va_S A s.heap H locs)
    (hM : Met l y wsM rm (PcI G Y tF H.size wc (.ref b :: As)) (va_Qv post (fun u t => BM G Y (va_A wc H.size) (wf u) t) (va_A wc H.size)) mc ms (va_A wc H.size)) (cw : va_CN R s args own index y host bytes maxL none wsM rm mc ms n ∧ y.name = "<init>" ∧ (Cond.instanceMethod y).before args s = true)
    (isC isR : List Nat) (hC : isC.map (fun i => ws[i]?) = wc.map some) (hn : va_nd isC = true) (hR : isR.map (fun i => ws[i]?) = (isR.filterMap (fun i => ws[i]?)).map some) (hnR : va_nd isR = true) (hdis : ∀ i ∈ isR, i ∉ isC)
    (hlen : As.length = n) (hsize : ls.size = nL) (hst : st0 = As.reverse ++ .ref b :: rest) (hW : (rest.map fun v => v.category).sum ≤ 8) (hdg : decode cc pc = .ok (.invokespecial index, 3)) (hf : cells + mc ≤ R.cells ∧ slots + ms ≤ R.slots)
    (kk : ∀ (u : S') (H1 : Heap) (locs1 : List Loc), post u → va_P G vwCl (isR.filterMap (fun i => ws[i]?) ++ wf u) H1 → va_D A (isR.filterMap (fun i => ws[i]?) ++ wf u) → va_S A s.heap H1 locs1 → W p l e R s m args below meth c H1 locs1 (cells + mc) (slots + ms) Q (F0 m (pc + 3) ls rest)) : W p l e R s m args below meth c H locs cells slots Q (F0 m pc ls st0) := by
  have hp := mi_pre hK hE hA hP hD hS isC hC hn (.ref b :: As)
  have hF := va_free hD hS hA isC hC
  refine va_callv (va_runIN S hM cw hp rfl hlen hsize hst (lv_room hW) hdg hf) hS (fun q _ h => hF q h) hF (fun u t H1 locs1 ht hvm hw hB hz1 hk1 hS1 => ?_)
  obtain ⟨a1, a2⟩ := mi_post hP hD hS hA isC isR hC hR hnR hdis ht hB hk1
  exact kk u H1 locs1 hw a1 a2 hS1
end MINIT
