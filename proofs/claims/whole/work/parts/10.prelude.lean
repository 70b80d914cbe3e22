/-! The words in which every contract here is said: one list of array classes, one predicate of what is around, one shape of start and end; calls with the frame, a row each. -/
def tyL (Y : Nat → ClassId) : List (ClassId × FieldType) := [(Y 0, .int), (Y 1, .boolean), (Y 2, .object "RackBench$Table"), (Y 3, .array .int), (Y 4, .long)]
def nestF : List (String × Nat × String × String × String) := [("RackBench", 124, "RackBench$Table", "n", "I"), ("RackBench", 171, "RackBench$Twist", "modulus", "I"), ("RackBench", 174, "RackBench$Braid", "width", "I"), ("RackBench", 177, "RackBench$Braid", "length", "I"), ("RackBench", 216, "RackBench$Namer", "best", "LRackBench$Table;"), ("RackBench$Braid", 37, "RackBench$Table", "n", "I"), ("RackBench$Braid", 57, "RackBench$Twist", "modulus", "I"), ("RackBench$Lister", 29, "RackBench$Table", "n", "I"), ("RackBench$Lister", 62, "RackBench", "FACTORIALS", "[I"), ("RackBench$Matcher", 29, "RackBench$Table", "n", "I"), ("RackBench$Namer", 58, "RackBench$Table", "n", "I"), ("RackBench$Permutations", 15, "RackBench", "FACTORIALS", "[I"), ("RackBench$Solver", 32, "RackBench$Table", "n", "I"), ("RackBench$TurnGroup", 27, "RackBench$Table", "n", "I"), ("RackBench$Twist", 25, "RackBench$Table", "n", "I")]
/-- what is around: nest mates' links, the static row of factorials outside A -/
def Ev (A : Nat → Prop) (tF : Nat) (U : State) : Prop := (∀ q ∈ nestF, va_Nw (.fieldLinkNest q.1 q.2.1 q.2.2.1 q.2.2.2.1 q.2.2.2.2 "RackBench") U) ∧ va_Z "RackBench" "FACTORIALS" "[I" (.ref tF) A U U.heap ∧ va_T .int tF 9 (fun j => .int (fct j)) A U U.heap
theorem Ev.nest {A : Nat → Prop} {tF : Nat} {U : State} (h : Ev A tF U) (args : Array Value) (k : Nat) (q : String × Nat × String × String × String) (hk : nestF[k]? = some q) : (Cond.fieldLinkNest q.1 q.2.1 q.2.2.1 q.2.2.2.1 q.2.2.2.2 "RackBench").before args U = true := va_Nw.use rfl (h.1 q (List.mem_of_getElem? hk))
theorem Ev.calling {A : Nat → Prop} {tF : Nat} {U : State} (g : JFrame) (mk : MethodId) (a : Array Value) (h : Ev A tF U) : Ev A tF (U.calling g mk a) :=
  ⟨fun q hq => va_Nw.same rfl rfl (h.1 q hq), va_Z.moved (u := U) (U := U.calling g mk a) (Vm.Alike.refl U.vm) h.2.1, va_T.moved (u := U) (U := U.calling g mk a) (Vm.Alike.refl U.vm) h.2.2⟩
theorem Ev.call {A B : Nat → Prop} {tF : Nat} {s U : State} {H : Heap} {locs : List Loc} (h : Ev A tF s) (hS : va_S A s.heap H locs) (hU : U.heap = H) (hW : s.WarmedH U.vm) (hB : ∀ q, B q → A q) : Ev B tF U := by
  refine ⟨fun q hq => va_Nw.warmF hW (h.1 q hq), ?_, ?_⟩
  · rw [hU]; exact ((h.2.1.kept (fun a h1 h2 => hS.2.1 a h1 h2)).moved hW.alike).narrow hB
  · rw [hU]; exact ((h.2.2.kept (fun a h1 h2 => hS.2.1 a h1 h2)).moved hW.alike).narrow hB
/-- a contract's start and the world at its end -/
def PcM (G : va_G) (Y : Nat → ClassId) (tF sz : Nat) (ws : va_W) (av : List Value) : Array Value → State → Prop := va_Pc av (fun U => U.heap.size = sz ∧ va_P G vwCl ws U.heap ∧ va_K G vwCl (tyL Y) U ∧ va_D (fun _ => True) ws ∧ Ev (va_A ws sz) tF U)
def BM (G : va_G) (Y : Nat → ClassId) (A : Nat → Prop) (ws : va_W) (t : State) : Prop := va_P G vwCl ws t.heap ∧ va_K G vwCl (tyL Y) t ∧ va_D A ws
theorem PcM.blind {G : va_G} {Y : Nat → ClassId} {tF sz : Nat} {ws : va_W} {av : List Value} : FrameBlind (PcM G Y tF sz ws av) := by
  intro a U g mk q
  obtain ⟨q0, q1, qP, qK, qD, qE⟩ := q
  exact ⟨q0, q1, qP, va_K.moved (u := U) (U := U.calling g mk a) (Vm.Alike.refl U.vm) qK, qD, qE.calling g mk a⟩
theorem mp_fm {α β : Type} (is : List α) (f : α → Option β) (l : List β) (h : is.map f = l.map some) : is.filterMap f = l := by
  have e : is.filterMap f = (is.map f).filterMap id := by rw [List.filterMap_map]; rfl
  rw [e, h, List.filterMap_map]
  exact List.filterMap_some
theorem zb.n {r : Int32} (h : zb r) : narrow .boolean (.int r) = .int r := by rcases h with rfl | rfl <;> rfl
theorem Met_ofWF {l : Launch} {y : MethodName} {ws ws' : List Cond} {rm : Room} {Pc : Array Value → State → Prop} {Qc : Array Value → State → Outcome → State → Prop} {mc ms : Nat} {free : Addr → Prop} {cc : ByteArray} {maxL : Nat} {ret : Option FieldType}
    (hy : plainFor y = true) (hw : ws = Cond.code y cc maxL ret :: ws')
    (body : ∀ p e s m args below meth c s₁, BodyLoose p l y (headSpec ws rm) cc maxL ret e s m args below meth c s₁ → c.maxLocals = maxL → Pc args s →
      W p l e (headSpec ws rm).room s m args below meth c s.heap [] 0 0 (MQ below Qc args s mc ms free) (entryFrame m args maxL)) : Met l y ws rm Pc Qc mc ms free := by
  refine MetFree.of_bodySF (code := cc) (maxLocals := maxL) (ret := ret) hy ?_ ?_
  · intro args s m h hn
    obtain ⟨meth, c, h1, h2, h3, h4, h5, h6, -, -⟩ := Cond.code_spec hn (atoms_spec (ws := ws) h _ (by rw [hw]; exact List.mem_cons_self))
    exact ⟨meth, c, h1, h2, h3, h4, h5, h6⟩
  · intro p e s m args below meth c s₁ B hml hP _
    have hh0 : s₁.heap = s.heap := by rw [B.state]; rfl
    obtain ⟨t, a1, o, b1, b2, b3⟩ := body p e s m args below meth c s₁ B hml hP s₁ hh0 (Stand.of_body B)
    exact ⟨t, o, a1, b1, b2, ⟨b3.1, b3.2⟩⟩
section MCALL
variable {p : Program} {l : Launch} {e : Env} {R : Room} {s : State} {m : MethodId} {args : Array Value} {below : List Frame} {meth : Method} {c : Code} {H : Heap} {locs : List Loc} {Q : State → Prop}
variable {cc : ByteArray} {pc nL : Nat} {ls : Array Slot} {rest st0 : List Value} {G : va_G} {Y : Nat → ClassId} {tF : Nat} {A : Nat → Prop} {ws wc : va_W} {Ts : List Cond} {own : String}
variable {y : MethodName} {wsM : List Cond} {rm : Room} {bytes : ByteArray} {maxL n index : Nat} {ret : Option FieldType} {As : List Value} {b : Addr} {Cn : String}
theorem va_aldqA {cells slots : Nat} {D : va_G} {cl : List vw_C} {tys : List (ClassId × FieldType)} {a : Nat} (hexec : p.tables.exec = Jvm.exec) (hb : c.code = cc) (hK : va_K D cl tys s) (hP : va_P D cl ws H) (q0 t0 : Nat) {cA : ClassId} {ty : FieldType} {n : Nat} {f : Nat → Option Nat} (ha : ws[q0]? = some (a, .inl (cA, n, .inr (.inr (.inr (.inr f)))))) (ht : tys[t0]? = some (cA, .array ty)) {i : Int32} (hin : vp_in i n) (hdg : decode cc pc = .ok (.aaload, 1))
    (kk : W p l e R s m args below meth c H locs cells slots Q (F0 m (pc + 1) ls (va_rf (f i.toNatClampNeg) :: rest))) : W p l e R s m args below meth c H locs cells slots Q (F0 m pc ls (.int i :: .ref a :: rest)) := by
  have hlt : i.toNatClampNeg < n := Nat.not_le.mp fun q => hin (Or.inr q)
  exact W.aald (v := va_rf (f i.toNatClampNeg)) (ty := .array ty) hexec hb (hP q0 _ ha) ((hK.2 t0 _ ht).1 n (fun j => va_rf (f j))) rfl (fun q => by cases q) (by show ¬ (i < 0 ∨ (arrV _ _ _).slots.size ≤ _); rw [arrV_size]; exact hin) (by show (arrV _ _ _).slots[_]? = _; rw [arrV_read _ _ hlt]) rfl rfl hdg kk
/-- the heart: a call's run, made of the caller's world -/
theorem mc_pre (hK : va_K G vwCl (tyL Y) s) (hE : Ev A tF s) (hA : ∀ q, s.heap.size ≤ q → A q) (hP : va_P G vwCl ws H) (hD : va_D A ws) (hS : va_S A s.heap H locs) (isC : List Nat) (hC : isC.map (fun i => ws[i]?) = wc.map some) (hn : va_nd isC = true) (av : List Value) : PreS s H (PcM G Y tF H.size wc av) av := by
  refine ⟨PcM.blind, fun U hU hW => ⟨rfl, by rw [hU], by rw [hU]; exact hP.sub isC (mp_fm _ _ _ hC), va_K.moved hW.alike hK, (hD.sub isC hn hC).weaken (fun _ _ _ _ => trivial), hE.call hS hU hW (va_free hD hS hA isC hC)⟩⟩
theorem mc_post {wf wn : va_W} {H1 : Heap} {t : State} (hP : va_P G vwCl ws H) (hD : va_D A ws) (hS : va_S A s.heap H locs) (hA : ∀ q, s.heap.size ≤ q → A q) (isC isR pm : List Nat) (hC : isC.map (fun i => ws[i]?) = wc.map some) (hR : isR.map (fun i => ws[i]?) = (isR.filterMap (fun i => ws[i]?)).map some) (hnR : va_nd isR = true) (hdis : ∀ i ∈ isR, i ∉ isC) (hpm : pm.map (fun i => (isR.filterMap (fun i => ws[i]?) ++ wf)[i]?) = wn.map some) (hnp : va_nd pm = true)
    (ht : t.heap = H1) (hB : BM G Y (va_A wc H.size) wf t) (hk : ∀ q : Nat, q < H.size → ¬ va_A wc H.size q → H1[q]? = H[q]?) : va_P G vwCl wn H1 ∧ va_D A wn := by
  obtain ⟨hP1, -, hD1⟩ := hB
  rw [ht] at hP1
  obtain ⟨a, b⟩ := va_join hP hD isC isR hC hR hnR hdis hk (va_free hD hS hA isC hC) hP1 hD1
  exact ⟨a.sub pm (mp_fm _ _ _ hpm), b.sub pm hnp hpm⟩
variable {S' : Type} {wf : S' → va_W}
theorem mc_iV {post : Int32 → S' → Prop} (S : CallFix p m c cc nL s args Ts own) (hK : va_K G vwCl (tyL Y) s) (hE : Ev A tF s) (hA : ∀ q, s.heap.size ≤ q → A q) (hP : va_P G vwCl ws H) (hD : va_D A ws) (hS : va_S A s.heap H locs)
    (hM : Met l y wsM rm (PcM G Y tF H.size wc (.ref b :: As)) (va_Qi post (fun u t => BM G Y (va_A wc H.size) (wf u) t) (va_A wc H.size)) 0 0 (va_A wc H.size)) (cw : CallW R s args own Cn index y bytes maxL ret wsM rm 0 0 n)
    (wn : S' → va_W) (isC isR pm : List Nat) (hC : isC.map (fun i => ws[i]?) = wc.map some) (hn : va_nd isC = true) (hR : isR.map (fun i => ws[i]?) = (isR.filterMap (fun i => ws[i]?)).map some) (hnR : va_nd isR = true) (hdis : ∀ i ∈ isR, i ∉ isC) (hpm : ∀ u, pm.map (fun i => (isR.filterMap (fun i => ws[i]?) ++ wf u)[i]?) = (wn u).map some) (hnp : va_nd pm = true)
    (q0 ci : Nat) {q : vw_C} {fs : List Value} (hc : vwCl[ci]? = some q) (hcn : q.1 = Cn) (he : ws[q0]? = some (b, .inr (ci, fs)))
    (hlen : As.length = n) (hsize : ls.size = nL) (hst : st0 = As.reverse ++ .ref b :: rest) (hW : (rest.map fun v => v.category).sum ≤ 8) (hdg : decode cc pc = .ok (.invokevirtual index, 3))
    (kk : ∀ (r : Int32) (u : S') (H1 : Heap) (locs1 : List Loc), post r u → va_P G vwCl (wn u) H1 → va_D A (wn u) → va_S A s.heap H1 locs1 → W p l e R s m args below meth c H1 locs1 0 0 Q (F0 m (pc + 3) ls (.int r :: rest))) : W p l e R s m args below meth c H locs 0 0 Q (F0 m pc ls st0) := by
  have hp := mc_pre hK hE hA hP hD hS isC hC hn (.ref b :: As)
  have hF := va_free hD hS hA isC hC
  subst hcn
  refine va_calli (va_runV S hM cw ⟨hp.1, va_recv hK hP hc he, hp.2⟩ rfl hlen hsize hst (lv_room hW) hdg ⟨Nat.zero_le _, Nat.zero_le _⟩) hS (fun q _ h => hF q h) hF (fun r u t H1 locs1 ht hvm hw hB hz1 hk1 hS1 => ?_)
  obtain ⟨a1, a2⟩ := mc_post hP hD hS hA isC isR pm hC hR hnR hdis (hpm u) hnp ht hB hk1
  exact kk r u H1 locs1 hw a1 a2 hS1
theorem mc_vV {post : S' → Prop} (S : CallFix p m c cc nL s args Ts own) (hK : va_K G vwCl (tyL Y) s) (hE : Ev A tF s) (hA : ∀ q, s.heap.size ≤ q → A q) (hP : va_P G vwCl ws H) (hD : va_D A ws) (hS : va_S A s.heap H locs)
    (hM : Met l y wsM rm (PcM G Y tF H.size wc (.ref b :: As)) (va_Qv post (fun u t => BM G Y (va_A wc H.size) (wf u) t) (va_A wc H.size)) 0 0 (va_A wc H.size)) (cw : CallW R s args own Cn index y bytes maxL ret wsM rm 0 0 n)
    (wn : S' → va_W) (isC isR pm : List Nat) (hC : isC.map (fun i => ws[i]?) = wc.map some) (hn : va_nd isC = true) (hR : isR.map (fun i => ws[i]?) = (isR.filterMap (fun i => ws[i]?)).map some) (hnR : va_nd isR = true) (hdis : ∀ i ∈ isR, i ∉ isC) (hpm : ∀ u, pm.map (fun i => (isR.filterMap (fun i => ws[i]?) ++ wf u)[i]?) = (wn u).map some) (hnp : va_nd pm = true)
    (q0 ci : Nat) {q : vw_C} {fs : List Value} (hc : vwCl[ci]? = some q) (hcn : q.1 = Cn) (he : ws[q0]? = some (b, .inr (ci, fs)))
    (hlen : As.length = n) (hsize : ls.size = nL) (hst : st0 = As.reverse ++ .ref b :: rest) (hW : (rest.map fun v => v.category).sum ≤ 8) (hdg : decode cc pc = .ok (.invokevirtual index, 3))
    (kk : ∀ (u : S') (H1 : Heap) (locs1 : List Loc), post u → va_P G vwCl (wn u) H1 → va_D A (wn u) → va_S A s.heap H1 locs1 → W p l e R s m args below meth c H1 locs1 0 0 Q (F0 m (pc + 3) ls rest)) : W p l e R s m args below meth c H locs 0 0 Q (F0 m pc ls st0) := by
  have hp := mc_pre hK hE hA hP hD hS isC hC hn (.ref b :: As)
  have hF := va_free hD hS hA isC hC
  subst hcn
  refine va_callv (va_runV S hM cw ⟨hp.1, va_recv hK hP hc he, hp.2⟩ rfl hlen hsize hst (lv_room hW) hdg ⟨Nat.zero_le _, Nat.zero_le _⟩) hS (fun q _ h => hF q h) hF (fun u t H1 locs1 ht hvm hw hB hz1 hk1 hS1 => ?_)
  obtain ⟨a1, a2⟩ := mc_post hP hD hS hA isC isR pm hC hR hnR hdis (hpm u) hnp ht hB hk1
  exact kk u H1 locs1 hw a1 a2 hS1
theorem mc_iS {post : Int32 → S' → Prop} (S : CallFix p m c cc nL s args Ts own) (hK : va_K G vwCl (tyL Y) s) (hE : Ev A tF s) (hA : ∀ q, s.heap.size ≤ q → A q) (hP : va_P G vwCl ws H) (hD : va_D A ws) (hS : va_S A s.heap H locs)
    (hM : Met l y wsM rm (PcM G Y tF H.size wc As) (va_Qi post (fun u t => BM G Y (va_A wc H.size) (wf u) t) (va_A wc H.size)) 0 0 (va_A wc H.size)) (cw : CallB R s args own index y bytes maxL ret wsM rm 0 0 n ∧ (Cond.static y).before args s = true)
    (wn : S' → va_W) (isC isR pm : List Nat) (hC : isC.map (fun i => ws[i]?) = wc.map some) (hn : va_nd isC = true) (hR : isR.map (fun i => ws[i]?) = (isR.filterMap (fun i => ws[i]?)).map some) (hnR : va_nd isR = true) (hdis : ∀ i ∈ isR, i ∉ isC) (hpm : ∀ u, pm.map (fun i => (isR.filterMap (fun i => ws[i]?) ++ wf u)[i]?) = (wn u).map some) (hnp : va_nd pm = true)
    (hlen : As.length = n) (hsize : ls.size = nL) (hst : st0 = As.reverse ++ rest) (hW : (rest.map fun v => v.category).sum ≤ 8) (hdg : decode cc pc = .ok (.invokestatic index, 3))
    (kk : ∀ (r : Int32) (u : S') (H1 : Heap) (locs1 : List Loc), post r u → va_P G vwCl (wn u) H1 → va_D A (wn u) → va_S A s.heap H1 locs1 → W p l e R s m args below meth c H1 locs1 0 0 Q (F0 m (pc + 3) ls (.int r :: rest))) : W p l e R s m args below meth c H locs 0 0 Q (F0 m pc ls st0) := by
  have hp := mc_pre hK hE hA hP hD hS isC hC hn As
  have hF := va_free hD hS hA isC hC
  refine va_calli (va_runS S hM cw hp rfl hlen hsize hst (lv_room hW) hdg ⟨Nat.zero_le _, Nat.zero_le _⟩) hS (fun q _ h => hF q h) hF (fun r u t H1 locs1 ht hvm hw hB hz1 hk1 hS1 => ?_)
  obtain ⟨a1, a2⟩ := mc_post hP hD hS hA isC isR pm hC hR hnR hdis (hpm u) hnp ht hB hk1
  exact kk r u H1 locs1 hw a1 a2 hS1
theorem mc_vS {post : S' → Prop} (S : CallFix p m c cc nL s args Ts own) (hK : va_K G vwCl (tyL Y) s) (hE : Ev A tF s) (hA : ∀ q, s.heap.size ≤ q → A q) (hP : va_P G vwCl ws H) (hD : va_D A ws) (hS : va_S A s.heap H locs)
    (hM : Met l y wsM rm (PcM G Y tF H.size wc As) (va_Qv post (fun u t => BM G Y (va_A wc H.size) (wf u) t) (va_A wc H.size)) 0 0 (va_A wc H.size)) (cw : CallB R s args own index y bytes maxL ret wsM rm 0 0 n ∧ (Cond.static y).before args s = true)
    (wn : S' → va_W) (isC isR pm : List Nat) (hC : isC.map (fun i => ws[i]?) = wc.map some) (hn : va_nd isC = true) (hR : isR.map (fun i => ws[i]?) = (isR.filterMap (fun i => ws[i]?)).map some) (hnR : va_nd isR = true) (hdis : ∀ i ∈ isR, i ∉ isC) (hpm : ∀ u, pm.map (fun i => (isR.filterMap (fun i => ws[i]?) ++ wf u)[i]?) = (wn u).map some) (hnp : va_nd pm = true)
    (hlen : As.length = n) (hsize : ls.size = nL) (hst : st0 = As.reverse ++ rest) (hW : (rest.map fun v => v.category).sum ≤ 8) (hdg : decode cc pc = .ok (.invokestatic index, 3))
    (kk : ∀ (u : S') (H1 : Heap) (locs1 : List Loc), post u → va_P G vwCl (wn u) H1 → va_D A (wn u) → va_S A s.heap H1 locs1 → W p l e R s m args below meth c H1 locs1 0 0 Q (F0 m (pc + 3) ls rest)) : W p l e R s m args below meth c H locs 0 0 Q (F0 m pc ls st0) := by
  have hp := mc_pre hK hE hA hP hD hS isC hC hn As
  have hF := va_free hD hS hA isC hC
  refine va_callv (va_runS S hM cw hp rfl hlen hsize hst (lv_room hW) hdg ⟨Nat.zero_le _, Nat.zero_le _⟩) hS (fun q _ h => hF q h) hF (fun u t H1 locs1 ht hvm hw hB hz1 hk1 hS1 => ?_)
  obtain ⟨a1, a2⟩ := mc_post hP hD hS hA isC isR pm hC hR hnR hdis (hpm u) hnp ht hB hk1
  exact kk u H1 locs1 hw a1 a2 hS1
end MCALL
theorem sw_out4 {x : Int32} (h0 : ¬ x = 0) (h1 : ¬ x = 1) (h2 : ¬ x = 2) (h3 : ¬ x = 3) : x.toInt < 0 ∨ 3 < x.toInt := by
  have a0 := lv_neT h0 (show (0 : Int32).toInt = 0 from rfl)
  have a1 := lv_neT h1 (show (1 : Int32).toInt = 1 from rfl)
  have a2 := lv_neT h2 (show (2 : Int32).toInt = 2 from rfl)
  have a3 := lv_neT h3 (show (3 : Int32).toInt = 3 from rfl)
  omega
theorem sw_out5 {x : Int32} (h0 : ¬ x = 0) (h1 : ¬ x = 1) (h2 : ¬ x = 2) (h3 : ¬ x = 3) (h4 : ¬ x = 4) : x.toInt < 0 ∨ 4 < x.toInt := by
  have a0 := lv_neT h0 (show (0 : Int32).toInt = 0 from rfl)
  have a1 := lv_neT h1 (show (1 : Int32).toInt = 1 from rfl)
  have a2 := lv_neT h2 (show (2 : Int32).toInt = 2 from rfl)
  have a3 := lv_neT h3 (show (3 : Int32).toInt = 3 from rfl)
  have a4 := lv_neT h4 (show (4 : Int32).toInt = 4 from rfl)
  omega
