/-! A world with some of its cells changed: the rest stays, and the call's row out of that. -/
def updW : va_W → List Nat → va_W → va_W
  | w, i :: is, x :: xs => updW (w.set i x) is xs
  | w, _, _ => w
theorem updW_nil (w xs : va_W) : updW w [] xs = w := by unfold updW; rfl
theorem updW_no (w : va_W) (i : Nat) (is : List Nat) : updW w (i :: is) [] = w := by unfold updW; rfl
theorem updW_cons (w : va_W) (i : Nat) (is : List Nat) (x : Nat × va_E) (xs : va_W) : updW w (i :: is) (x :: xs) = updW (w.set i x) is xs := rfl
theorem updW_len (is : List Nat) : ∀ (w xs : va_W), (updW w is xs).length = w.length := by
  induction is with
  | nil => intro w xs; rw [updW_nil]
  | cons i is ih =>
    intro w xs
    cases xs with
    | nil => rw [updW_no]
    | cons x xs => rw [updW_cons, ih, List.length_set]
theorem updW_out (is : List Nat) : ∀ (w xs : va_W) (j : Nat), j ∉ is → (updW w is xs)[j]? = w[j]? := by
  induction is with
  | nil => intro w xs j _; rw [updW_nil]
  | cons i is ih =>
    intro w xs j h
    cases xs with
    | nil => rw [updW_no]
    | cons x xs =>
      have hne : i ≠ j := by
        intro q
        subst q
        exact h List.mem_cons_self
      rw [updW_cons, ih (w.set i x) xs j (fun q => h (List.mem_cons_of_mem _ q)), List.getElem?_set_ne hne]
theorem updW_in (is : List Nat) : ∀ (w xs : va_W), va_nd is = true → is.length = xs.length → (∀ i ∈ is, i < w.length) → is.map (fun i => (updW w is xs)[i]?) = xs.map some := by
  induction is with
  | nil =>
    intro w xs _ h _
    cases xs with
    | nil => rfl
    | cons x xs => simp at h
  | cons i is ih =>
    intro w xs hn h hl
    cases xs with
    | nil => simp at h
    | cons x xs =>
      have hn2 : (decide (i ∉ is) && va_nd is) = true := hn
      rw [Bool.and_eq_true, decide_eq_true_eq] at hn2
      have ih2 := ih (w.set i x) xs hn2.2 (by simpa using h) (fun j hj => by rw [List.length_set]; exact hl j (List.mem_cons_of_mem _ hj))
      have e : (updW (w.set i x) is xs)[i]? = some x := by
        rw [updW_out is (w.set i x) xs i hn2.1, List.getElem?_set_self (hl i List.mem_cons_self)]
      rw [updW_cons, List.map_cons, List.map_cons, e, ih2]
section MLAW2
variable {p : Program} {l : Launch} {e : Env} {R : Room} {s : State} {m : MethodId} {args : Array Value} {below : List Frame} {meth : Method} {c : Code} {H : Heap} {locs : List Loc} {Q : State → Prop} {cells slots : Nat}
variable {cc : ByteArray} {pc nL : Nat} {ls : Array Slot} {rest st0 : List Value} {G : va_G} {Y : Nat → ClassId} {tF : Nat} {A : Nat → Prop} {ws wc w1 rs : va_W} {Ts : List Cond} {own : String}
variable {y : MethodName} {wsM : List Cond} {rm : Room} {bytes : ByteArray} {maxL n index mc ms : Nat} {ret : Option FieldType} {As : List Value} {b : Addr} {Cn : String}
variable {S' : Type} {wf : S' → va_W}
theorem ml_iV2 {post : Int32 → S' → Prop} (S : CallFix p m c cc nL s args Ts own) (hK : va_K G vwCl (tyL Y) s) (hE : Ev A tF s) (hA : ∀ q, s.heap.size ≤ q → A q) (hP : va_P G vwCl (w1 ++ rs) H) (hD : va_D A (w1 ++ rs)) (hS : va_S A s.heap H locs)
    (hM : Met l y wsM rm (PcM G Y tF H.size wc (.ref b :: As)) (va_Qi post (fun u t => BM G Y (va_A wc H.size) (wf u) t) (va_A wc H.size)) 0 0 (va_A wc H.size)) (cw : CallW R s args own Cn index y bytes maxL ret wsM rm 0 0 n)
    (wn : S' → va_W) (isC isR pm : List Nat) (hC : isC.map (fun i => w1[i]?) = wc.map some) (hn : va_nd isC = true) (N : Nat) (hN : w1.length = N) (hlt : ∀ i ∈ isR, i < N) (hltC : ∀ i ∈ isC, i < N) (hnR : va_nd isR = true) (hdis : ∀ i ∈ isR, i ∉ isC) (hln : ∀ u, isC.length = (wf u).length) (hu : ∀ u, wn u = updW w1 isC (wf u)) (hsq : pm.map (fun i => (isR ++ isC)[i]?) = (List.range N).map some) (hnp : va_nd pm = true)
    (q0 ci : Nat) {q : vw_C} {fs : List Value} (hc : vwCl[ci]? = some q) (hcn : q.1 = Cn) (he : w1[q0]? = some (b, .inr (ci, fs)))
    (hlen : As.length = n) (hsize : ls.size = nL) (hst : st0 = As.reverse ++ .ref b :: rest) (hW : (rest.map fun v => v.category).sum ≤ 8) (hdg : decode cc pc = .ok (.invokevirtual index, 3)) (hf : cells ≤ R.cells ∧ slots ≤ R.slots)
    (kk : ∀ (r : Int32) (u : S') (H1 : Heap) (locs1 : List Loc), post r u → va_P G vwCl (wn u ++ rs) H1 → va_D A (wn u ++ rs) → va_S A s.heap H1 locs1 → W p l e R s m args below meth c H1 locs1 cells slots Q (F0 m (pc + 3) ls (.int r :: rest))) : W p l e R s m args below meth c H locs cells slots Q (F0 m pc ls st0) :=
  ml_iV S hK hE hA hP hD hS hM cw wn isC isR pm hC hn N hN hlt hnR hdis
    (fun u => by rw [hu u]; exact updW_in isC w1 (wf u) hn (hln u) (fun i hi => by rw [hN]; exact hltC i hi))
    (fun u => by rw [hu u]; exact List.map_congr_left (fun i hi => updW_out isC w1 (wf u) i (hdis i hi)))
    (fun u => by rw [hu u, updW_len]; exact hN) hsq hnp q0 ci hc hcn he hlen hsize hst hW hdg hf kk
theorem ml_iSW2 {post : Int32 → S' → Prop} {hh : List (Nat × Nat × Nat × Nat)} (S : CallFix p m c cc nL s args Ts own) (hK : va_K G vwCl (tyL Y) s) (hE : EvX A tF s) (hA : ∀ q, s.heap.size ≤ q → A q) (hP : va_P G vwCl (w1 ++ rs) H) (hD : va_D A (w1 ++ rs)) (hS : va_S A s.heap H locs)
    (hM : Met l y wsM rm (PcX G Y tF H.size wc As) (va_Qi post (fun u t => BM G Y (va_A wc H.size) (wf u) t) (va_A wc H.size)) mc ms (va_A wc H.size)) (cw : vx_CSW R s args own index y bytes maxL ret hh wsM rm mc ms n)
    (wn : S' → va_W) (isC isR pm : List Nat) (hC : isC.map (fun i => w1[i]?) = wc.map some) (hn : va_nd isC = true) (N : Nat) (hN : w1.length = N) (hlt : ∀ i ∈ isR, i < N) (hltC : ∀ i ∈ isC, i < N) (hnR : va_nd isR = true) (hdis : ∀ i ∈ isR, i ∉ isC) (hln : ∀ u, isC.length = (wf u).length) (hu : ∀ u, wn u = updW w1 isC (wf u)) (hsq : pm.map (fun i => (isR ++ isC)[i]?) = (List.range N).map some) (hnp : va_nd pm = true)
    (hlen : As.length = n) (hsize : ls.size = nL) (hst : st0 = As.reverse ++ rest) (hW : (rest.map fun v => v.category).sum ≤ 8) (hdg : decode cc pc = .ok (.invokestatic index, 3)) (hf : cells + mc ≤ R.cells ∧ slots + ms ≤ R.slots)
    (kk : ∀ (r : Int32) (u : S') (H1 : Heap) (locs1 : List Loc), post r u → va_P G vwCl (wn u ++ rs) H1 → va_D A (wn u ++ rs) → va_S A s.heap H1 locs1 → W p l e R s m args below meth c H1 locs1 (cells + mc) (slots + ms) Q (F0 m (pc + 3) ls (.int r :: rest))) : W p l e R s m args below meth c H locs cells slots Q (F0 m pc ls st0) :=
  ml_iSW S hK hE hA hP hD hS hM cw wn isC isR pm hC hn N hN hlt hnR hdis
    (fun u => by rw [hu u]; exact updW_in isC w1 (wf u) hn (hln u) (fun i hi => by rw [hN]; exact hltC i hi))
    (fun u => by rw [hu u]; exact List.map_congr_left (fun i hi => updW_out isC w1 (wf u) i (hdis i hi)))
    (fun u => by rw [hu u, updW_len]; exact hN) hsq hnp hlen hsize hst hW hdg hf kk
end MLAW2
