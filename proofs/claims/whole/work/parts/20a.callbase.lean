/-! Calls out of the law: the callee's cells lie among those of one object's world, the rest of the world is anything. -/
section MLAW
variable {p : Program} {l : Launch} {e : Env} {R : Room} {s : State} {m : MethodId} {args : Array Value} {below : List Frame} {meth : Method} {c : Code} {H : Heap} {locs : List Loc} {Q : State → Prop} {cells slots : Nat}
variable {cc : ByteArray} {pc nL : Nat} {ls : Array Slot} {rest st0 : List Value} {G : va_G} {Y : Nat → ClassId} {tF : Nat} {A : Nat → Prop} {ws wc w1 rs : va_W} {Ts : List Cond} {own : String}
variable {y : MethodName} {wsM : List Cond} {rm : Room} {bytes : ByteArray} {maxL n index mc ms : Nat} {ret : Option FieldType} {As : List Value} {b : Addr} {Cn : String}
theorem ap_l {k : Nat} {q : Nat × va_E} (h : w1[k]? = some q) : (w1 ++ rs)[k]? = some q := by
  rw [List.getElem?_append_left (List.getElem?_eq_some_iff.mp h).1]; exact h
theorem ap_r {k : Nat} {q : Nat × va_E} (h : rs[k]? = some q) : (w1 ++ rs)[w1.length + k]? = some q := by
  rw [List.getElem?_append_right (Nat.le_add_right _ _), Nat.add_sub_cancel_left]; exact h
theorem ap_Pl (hP : va_P G vwCl (w1 ++ rs) H) : va_P G vwCl w1 H := fun k q h => hP k q (ap_l h)
theorem ap_Pr (hP : va_P G vwCl (w1 ++ rs) H) : va_P G vwCl rs H := fun k q h => hP _ q (ap_r h)
theorem ap_Dl (hD : va_D A (w1 ++ rs)) : va_D A w1 := ⟨fun i j x z hi hj h => hD.1 i j x z (ap_l hi) (ap_l hj) h, fun k q h => hD.2 k q (ap_l h)⟩
theorem ap_Dr (hD : va_D A (w1 ++ rs)) : va_D A rs := ⟨fun i j x z hi hj h => by have := hD.1 _ _ x z (ap_r hi) (ap_r hj) h; omega, fun k q h => hD.2 _ q (ap_r h)⟩
theorem ap_X (hD : va_D A (w1 ++ rs)) (i j : Nat) (x z : Nat × va_E) (hi : w1[i]? = some x) (hj : rs[j]? = some z) : x.1 ≠ z.1 := fun h => by
  have h1 := hD.1 _ _ x z (ap_l hi) (ap_r hj) h
  have h2 := (List.getElem?_eq_some_iff.mp hi).1
  omega
theorem ap_Pc (hP : va_P G vwCl (w1 ++ rs) H) : va_P G vwCl (rs ++ w1) H := (ap_Pr hP).app (ap_Pl hP)
theorem ap_Dc (hD : va_D A (w1 ++ rs)) : va_D A (rs ++ w1) := (ap_Dr hD).app (ap_Dl hD) (fun i j x z hi hj h => ap_X hD j i z x hj hi h.symm)
/-- the three worlds, turned round -/
theorem ap_P3 {wa wb wd : va_W} (hP : va_P G vwCl (wa ++ (wb ++ wd)) H) : va_P G vwCl (wb ++ (wd ++ wa)) H := by rw [← List.append_assoc]; exact ap_Pc hP
theorem ap_D3 {wa wb wd : va_W} (hD : va_D A (wa ++ (wb ++ wd))) : va_D A (wb ++ (wd ++ wa)) := by rw [← List.append_assoc]; exact ap_Dc hD
theorem ap_post {wf wn : va_W} {H1 : Heap} {t : State} (hP : va_P G vwCl (w1 ++ rs) H) (hD : va_D A (w1 ++ rs)) (hS : va_S A s.heap H locs) (hA : ∀ q, s.heap.size ≤ q → A q) (isC isR pm : List Nat) (hC : isC.map (fun i => w1[i]?) = wc.map some) (hR : isR.map (fun i => w1[i]?) = (isR.filterMap (fun i => w1[i]?)).map some) (hnR : va_nd isR = true) (hdis : ∀ i ∈ isR, i ∉ isC) (hpm : pm.map (fun i => (isR.filterMap (fun i => w1[i]?) ++ wf)[i]?) = wn.map some) (hnp : va_nd pm = true)
    (ht : t.heap = H1) (hB : BM G Y (va_A wc H.size) wf t) (hk : ∀ q : Nat, q < H.size → ¬ va_A wc H.size q → H1[q]? = H[q]?) : va_P G vwCl (wn ++ rs) H1 ∧ va_D A (wn ++ rs) := by
  have hPr : va_P G vwCl rs H := ap_Pr hP
  obtain ⟨a, b⟩ := mc_post (ap_Pl hP) (ap_Dl hD) hS hA isC isR pm hC hR hnR hdis hpm hnp ht hB hk
  have hnc : ∀ (j : Nat) (z : Nat × va_E), rs[j]? = some z → ¬ va_A wc H.size z.1 := by
    intro j z hz hq
    rcases hq with ⟨k, e9, hk9⟩ | h
    · have h1 : (isC.map (fun i => w1[i]?))[k]? = some (some (z.1, e9)) := by rw [hC, List.getElem?_map, hk9]; rfl
      rw [List.getElem?_map] at h1
      cases hi : isC[k]? with
      | none => rw [hi] at h1; cases h1
      | some i =>
        rw [hi] at h1
        have h2 : w1[i]? = some (z.1, e9) := Option.some.inj h1
        exact ap_X hD i j _ z h2 hz rfl
    · exact absurd (hPr j z hz).lt (Nat.not_lt.mpr h)
  refine ⟨a.app (hPr.kept (fun j z hz => hk z.1 (hPr j z hz).lt (hnc j z hz))), b.app (ap_Dr hD) ?_⟩
  intro i j x z hi hj h
  have h1 : (pm.map (fun i => (isR.filterMap (fun i => w1[i]?) ++ wf)[i]?))[i]? = some (some x) := by rw [hpm, List.getElem?_map, hi]; rfl
  rw [List.getElem?_map] at h1
  cases hi2 : pm[i]? with
  | none => rw [hi2] at h1; cases h1
  | some k =>
    rw [hi2] at h1
    have h2 : (isR.filterMap (fun i => w1[i]?) ++ wf)[k]? = some x := Option.some.inj h1
    rcases List.mem_append.mp (List.mem_of_getElem? h2) with h3 | h3
    · obtain ⟨v, -, hv⟩ := List.mem_filterMap.mp h3
      exact ap_X hD v j x z hv hj h
    · obtain ⟨v, hv⟩ := List.getElem?_of_mem h3
      have h4 := hB.2.2.2 v x hv
      rw [h] at h4
      exact hnc j z hj h4
/-- behind a call whose world is all of the first part -/
theorem ap_all {wf : va_W} {H1 : Heap} {t : State} (hP : va_P G vwCl (w1 ++ rs) H) (hD : va_D A (w1 ++ rs)) (hS : va_S A s.heap H locs) (hA : ∀ q, s.heap.size ≤ q → A q) (ht : t.heap = H1) (hB : BM G Y (va_A w1 H.size) wf t) (hk : ∀ q : Nat, q < H.size → ¬ va_A w1 H.size q → H1[q]? = H[q]?) : va_P G vwCl (wf ++ rs) H1 ∧ va_D A (wf ++ rs) := by
  obtain ⟨b1, -, b3⟩ := hB
  rw [ht] at b1
  have hPr : va_P G vwCl rs H := ap_Pr hP
  have hnc : ∀ (j : Nat) (z : Nat × va_E), rs[j]? = some z → ¬ va_A w1 H.size z.1 := by
    intro j z hz hq
    rcases hq with ⟨k, e9, hk9⟩ | h
    · exact ap_X hD k j _ z hk9 hz rfl
    · exact absurd (hPr j z hz).lt (Nat.not_lt.mpr h)
  have hF : ∀ q, va_A w1 H.size q → A q := by
    intro q h
    rcases h with ⟨k, e9, h⟩ | h
    · exact (ap_Dl hD).2 k (q, e9) h
    · exact hA q (Nat.le_trans hS.1 h)
  refine ⟨b1.app (hPr.kept (fun j z hz => hk z.1 (hPr j z hz).lt (hnc j z hz))), (b3.weaken (fun k q _ h => hF _ h)).app (ap_Dr hD) ?_⟩
  intro i j x z hi hj h
  have h4 := b3.2 i x hi
  rw [h] at h4
  exact hnc j z hj h4
theorem ap_F (hD : va_D A (w1 ++ rs)) (hS : va_S A s.heap H locs) (hA : ∀ q, s.heap.size ≤ q → A q) : ∀ q, va_A w1 H.size q → A q := by
  intro q h
  rcases h with ⟨k, e9, h⟩ | h
  · exact (ap_Dl hD).2 k (q, e9) h
  · exact hA q (Nat.le_trans hS.1 h)
theorem R_of {w : va_W} {N : Nat} (hN : w.length = N) : ∀ (is : List Nat), (∀ i ∈ is, i < N) → is.map (fun i => w[i]?) = (is.filterMap (fun i => w[i]?)).map some
  | [], _ => rfl
  | a :: is, h => by
    have ha : a < w.length := by rw [hN]; exact h a List.mem_cons_self
    have e1 : w[a]? = some w[a] := List.getElem?_eq_getElem ha
    have ih := R_of hN is (fun i hi => h i (List.mem_cons_of_mem _ hi))
    have e2 : (a :: is).filterMap (fun i => w[i]?) = w[a] :: is.filterMap (fun i => w[i]?) := by
      rw [List.filterMap_cons_some (b := w[a]) e1]
    rw [e2, List.map_cons, List.map_cons, ih, e1]
theorem pm_of {wr wf wn : va_W} {seq pm : List Nat} {N : Nat} (hN : wn.length = N) (h1 : seq.map (fun i => wn[i]?) = (wr ++ wf).map some) (h2 : pm.map (fun i => seq[i]?) = (List.range N).map some) : pm.map (fun i => (wr ++ wf)[i]?) = wn.map some := by
  subst hN
  apply List.ext_getElem?
  intro k
  have a2 : (pm.map (fun i => seq[i]?))[k]? = ((List.range wn.length).map some)[k]? := by rw [h2]
  rw [List.getElem?_map, List.getElem?_map] at a2
  rw [List.getElem?_map, List.getElem?_map]
  by_cases hk : k < wn.length
  · rw [List.getElem?_range hk] at a2
    cases hp : pm[k]? with
    | none => rw [hp] at a2; cases a2
    | some i =>
      rw [hp] at a2
      have a3 : seq[i]? = some k := Option.some.inj a2
      have a1 : (seq.map (fun i => wn[i]?))[i]? = ((wr ++ wf).map some)[i]? := by rw [h1]
      rw [List.getElem?_map, List.getElem?_map, a3] at a1
      cases hw : (wr ++ wf)[i]? with
      | none => rw [hw] at a1; cases a1
      | some v =>
        rw [hw] at a1
        have a4 : wn[k]? = some v := Option.some.inj a1
        rw [a4]
        show some ((wr ++ wf)[i]?) = some (some v)
        rw [hw]
  · have h3 : wn[k]? = none := List.getElem?_eq_none (Nat.le_of_not_lt hk)
    have h4 : (List.range wn.length)[k]? = none := List.getElem?_eq_none (by rw [List.length_range]; exact Nat.le_of_not_lt hk)
    rw [h4] at a2
    cases hp : pm[k]? with
    | none => rw [h3]; rfl
    | some i => rw [hp] at a2; cases a2
variable {S' : Type} {wf : S' → va_W}
theorem ml_iV {post : Int32 → S' → Prop} (S : CallFix p m c cc nL s args Ts own) (hK : va_K G vwCl (tyL Y) s) (hE : Ev A tF s) (hA : ∀ q, s.heap.size ≤ q → A q) (hP : va_P G vwCl (w1 ++ rs) H) (hD : va_D A (w1 ++ rs)) (hS : va_S A s.heap H locs)
    (hM : Met l y wsM rm (PcM G Y tF H.size wc (.ref b :: As)) (va_Qi post (fun u t => BM G Y (va_A wc H.size) (wf u) t) (va_A wc H.size)) 0 0 (va_A wc H.size)) (cw : CallW R s args own Cn index y bytes maxL ret wsM rm 0 0 n)
    (wn : S' → va_W) (isC isR pm : List Nat) (hC : isC.map (fun i => w1[i]?) = wc.map some) (hn : va_nd isC = true) (N : Nat) (hN : w1.length = N) (hlt : ∀ i ∈ isR, i < N) (hnR : va_nd isR = true) (hdis : ∀ i ∈ isR, i ∉ isC) (hCn : ∀ u, isC.map (fun i => (wn u)[i]?) = (wf u).map some) (hRn : ∀ u, isR.map (fun i => (wn u)[i]?) = isR.map (fun i => w1[i]?)) (hNn : ∀ u, (wn u).length = N) (hsq : pm.map (fun i => (isR ++ isC)[i]?) = (List.range N).map some) (hnp : va_nd pm = true)
    (q0 ci : Nat) {q : vw_C} {fs : List Value} (hc : vwCl[ci]? = some q) (hcn : q.1 = Cn) (he : w1[q0]? = some (b, .inr (ci, fs)))
    (hlen : As.length = n) (hsize : ls.size = nL) (hst : st0 = As.reverse ++ .ref b :: rest) (hW : (rest.map fun v => v.category).sum ≤ 8) (hdg : decode cc pc = .ok (.invokevirtual index, 3)) (hf : cells ≤ R.cells ∧ slots ≤ R.slots)
    (kk : ∀ (r : Int32) (u : S') (H1 : Heap) (locs1 : List Loc), post r u → va_P G vwCl (wn u ++ rs) H1 → va_D A (wn u ++ rs) → va_S A s.heap H1 locs1 → W p l e R s m args below meth c H1 locs1 cells slots Q (F0 m (pc + 3) ls (.int r :: rest))) : W p l e R s m args below meth c H locs cells slots Q (F0 m pc ls st0) := by
  have hp := mc_pre hK hE hA (ap_Pl hP) (ap_Dl hD) hS isC hC hn (.ref b :: As)
  have hF := va_free (ap_Dl hD) hS hA isC hC
  have hR := R_of hN isR hlt
  have hpm : ∀ u, pm.map (fun i => (isR.filterMap (fun i => w1[i]?) ++ wf u)[i]?) = (wn u).map some := fun u => pm_of (hNn u) (by rw [List.map_append, hRn u, hR, hCn u, ← List.map_append]) hsq
  subst hcn
  refine va_calli (va_runV S hM cw ⟨hp.1, va_recv hK (ap_Pl hP) hc he, hp.2⟩ rfl hlen hsize hst (lv_room hW) hdg hf) hS (fun q _ h => hF q h) hF (fun r u t H1 locs1 ht hvm hw hB hz1 hk1 hS1 => ?_)
  obtain ⟨a1, a2⟩ := ap_post hP hD hS hA isC isR pm hC hR hnR hdis (hpm u) hnp ht hB hk1
  exact kk r u H1 locs1 hw a1 a2 hS1
/-- a static call of one of the law's own methods with a table, which may make cells -/
theorem ml_iSW {post : Int32 → S' → Prop} {hh : List (Nat × Nat × Nat × Nat)} (S : CallFix p m c cc nL s args Ts own) (hK : va_K G vwCl (tyL Y) s) (hE : EvX A tF s) (hA : ∀ q, s.heap.size ≤ q → A q) (hP : va_P G vwCl (w1 ++ rs) H) (hD : va_D A (w1 ++ rs)) (hS : va_S A s.heap H locs)
    (hM : Met l y wsM rm (PcX G Y tF H.size wc As) (va_Qi post (fun u t => BM G Y (va_A wc H.size) (wf u) t) (va_A wc H.size)) mc ms (va_A wc H.size)) (cw : vx_CSW R s args own index y bytes maxL ret hh wsM rm mc ms n)
    (wn : S' → va_W) (isC isR pm : List Nat) (hC : isC.map (fun i => w1[i]?) = wc.map some) (hn : va_nd isC = true) (N : Nat) (hN : w1.length = N) (hlt : ∀ i ∈ isR, i < N) (hnR : va_nd isR = true) (hdis : ∀ i ∈ isR, i ∉ isC) (hCn : ∀ u, isC.map (fun i => (wn u)[i]?) = (wf u).map some) (hRn : ∀ u, isR.map (fun i => (wn u)[i]?) = isR.map (fun i => w1[i]?)) (hNn : ∀ u, (wn u).length = N) (hsq : pm.map (fun i => (isR ++ isC)[i]?) = (List.range N).map some) (hnp : va_nd pm = true)
    (hlen : As.length = n) (hsize : ls.size = nL) (hst : st0 = As.reverse ++ rest) (hW : (rest.map fun v => v.category).sum ≤ 8) (hdg : decode cc pc = .ok (.invokestatic index, 3)) (hf : cells + mc ≤ R.cells ∧ slots + ms ≤ R.slots)
    (kk : ∀ (r : Int32) (u : S') (H1 : Heap) (locs1 : List Loc), post r u → va_P G vwCl (wn u ++ rs) H1 → va_D A (wn u ++ rs) → va_S A s.heap H1 locs1 → W p l e R s m args below meth c H1 locs1 (cells + mc) (slots + ms) Q (F0 m (pc + 3) ls (.int r :: rest))) : W p l e R s m args below meth c H locs cells slots Q (F0 m pc ls st0) := by
  have hp := mx_pre hK hE hA (ap_Pl hP) (ap_Dl hD) hS isC hC hn As
  have hF := va_free (ap_Dl hD) hS hA isC hC
  have hR := R_of hN isR hlt
  have hpm : ∀ u, pm.map (fun i => (isR.filterMap (fun i => w1[i]?) ++ wf u)[i]?) = (wn u).map some := fun u => pm_of (hNn u) (by rw [List.map_append, hRn u, hR, hCn u, ← List.map_append]) hsq
  refine va_calli (vx_runSW S hM cw hp rfl hlen hsize hst (lv_room hW) hdg hf) hS (fun q _ h => hF q h) hF (fun r u t H1 locs1 ht hvm hw hB hz1 hk1 hS1 => ?_)
  obtain ⟨a1, a2⟩ := ap_post hP hD hS hA isC isR pm hC hR hnR hdis (hpm u) hnp ht hB hk1
  exact kk r u H1 locs1 hw a1 a2 hS1
theorem ml_I {post : S' → Prop} (S : CallFix p m c cc nL s args Ts own) (hK : va_K G vwCl (tyL Y) s) (hE : EvI A tF s) (hA : ∀ q, s.heap.size ≤ q → A q) (hP : va_P G vwCl (w1 ++ rs) H) (hD : va_D A (w1 ++ rs)) (hS : va_S A s.heap H locs)
    (hM : Met l y wsM rm (PcI G Y tF H.size w1 (.ref b :: As)) (va_Qv post (fun u t => BM G Y (va_A w1 H.size) (wf u) t) (va_A w1 H.size)) mc ms (va_A w1 H.size)) (cw : CallB R s args own index y bytes maxL none wsM rm mc ms n ∧ y.name = "<init>" ∧ (Cond.instanceMethod y).before args s = true)
    (hlen : As.length = n) (hsize : ls.size = nL) (hst : st0 = As.reverse ++ .ref b :: rest) (hW : (rest.map fun v => v.category).sum ≤ 8) (hdg : decode cc pc = .ok (.invokespecial index, 3)) (hf : cells + mc ≤ R.cells ∧ slots + ms ≤ R.slots)
    (kk : ∀ (u : S') (H1 : Heap) (locs1 : List Loc), post u → va_P G vwCl (wf u ++ rs) H1 → va_D A (wf u ++ rs) → va_S A s.heap H1 locs1 → W p l e R s m args below meth c H1 locs1 (cells + mc) (slots + ms) Q (F0 m (pc + 3) ls rest)) : W p l e R s m args below meth c H locs cells slots Q (F0 m pc ls st0) := by
  have hF := ap_F hD hS hA
  have hp : PreS s H (PcI G Y tF H.size w1 (.ref b :: As)) (.ref b :: As) := ⟨PcI.blind, fun U hU hW => ⟨rfl, by rw [hU], by rw [hU]; exact ap_Pl hP, va_K.moved hW.alike hK, (ap_Dl hD).weaken (fun _ _ _ _ => trivial), hE.call hS hU hW hF⟩⟩
  refine va_callv (va_runI S hM cw hp rfl hlen hsize hst (lv_room hW) hdg hf) hS (fun q _ h => hF q h) hF (fun u t H1 locs1 ht hvm hw hB hz1 hk1 hS1 => ?_)
  obtain ⟨a1, a2⟩ := ap_all hP hD hS hA ht hB hk1
  exact kk u H1 locs1 hw a1 a2 hS1
end MLAW
/-- what stays the same all through the law -/
def LFix (p : Program) (l : Launch) (s : State) (m : MethodId) (args : Array Value) (c : Code) (G : va_G) (Y : Nat → ClassId) (tF : Nat) (A : Nat → Prop) : Prop := CallFix p m c cL_law 7 s args wsN_law RL ∧ va_K G vwCl (tyL Y) s ∧ EvX A tF s ∧ (∀ q, s.heap.size ≤ q → A q) ∧ l.stackTraces = false
