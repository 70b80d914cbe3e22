/-! The same, the cells that stay read off in one pass. -/
def mgB : List Bool → va_W → va_W → va_W
  | true :: ms, _ :: w, b :: w' => b :: mgB ms w w'
  | false :: ms, a :: w, _ :: w' => a :: mgB ms w w'
  | _, _, _ => []
theorem mgB_get (ms : List Bool) : ∀ (w w' : va_W) (j : Nat), w.length = w'.length → ms[j]? = some false → (mgB ms w w')[j]? = w[j]? := by
  induction ms with
  | nil => intro w w' j _ h; simp at h
  | cons b ms ih =>
    intro w w' j hl h
    cases w with
    | nil =>
      cases w' with
      | nil => cases b <;> rfl
      | cons b w' => simp at hl
    | cons a w =>
      cases w' with
      | nil => simp at hl
      | cons a' w' =>
        have hl2 : w.length = w'.length := by simpa using hl
        cases j with
        | zero =>
          have hb : b = false := by simpa using h
          subst hb
          rfl
        | succ j =>
          have h2 : ms[j]? = some false := by simpa using h
          have h3 := ih w w' j hl2 h2
          cases b with
          | true =>
            show (a' :: mgB ms w w')[j + 1]? = (a :: w)[j + 1]?
            rw [List.getElem?_cons_succ, List.getElem?_cons_succ, h3]
          | false =>
            show (a :: mgB ms w w')[j + 1]? = (a :: w)[j + 1]?
            rw [List.getElem?_cons_succ, List.getElem?_cons_succ, h3]
section MLAW3
variable {p : Program} {l : Launch} {e : Env} {R : Room} {s : State} {m : MethodId} {args : Array Value} {below : List Frame} {meth : Method} {c : Code} {H : Heap} {locs : List Loc} {Q : State → Prop} {cells slots : Nat}
variable {cc : ByteArray} {pc nL : Nat} {ls : Array Slot} {rest st0 : List Value} {G : va_G} {Y : Nat → ClassId} {tF : Nat} {A : Nat → Prop} {ws wc w1 rs : va_W} {Ts : List Cond} {own : String}
variable {y : MethodName} {wsM : List Cond} {rm : Room} {bytes : ByteArray} {maxL n index mc ms : Nat} {ret : Option FieldType} {As : List Value} {b : Addr} {Cn : String}
variable {S' : Type} {wf : S' → va_W}
theorem ml_iV3 {post : Int32 → S' → Prop} (S : CallFix p m c cc nL s args Ts own) (hK : va_K G vwCl (tyL Y) s) (hE : Ev A tF s) (hA : ∀ q, s.heap.size ≤ q → A q) (hP : va_P G vwCl (w1 ++ rs) H) (hD : va_D A (w1 ++ rs)) (hS : va_S A s.heap H locs)
    (hM : Met l y wsM rm (PcM G Y tF H.size wc (.ref b :: As)) (va_Qi post (fun u t => BM G Y (va_A wc H.size) (wf u) t) (va_A wc H.size)) 0 0 (va_A wc H.size)) (cw : CallW R s args own Cn index y bytes maxL ret wsM rm 0 0 n)
    (wn : S' → va_W) (isC isR pm : List Nat) (hC : isC.map (fun i => w1[i]?) = wc.map some) (hn : va_nd isC = true) (N : Nat) (hN : w1.length = N) (hlt : ∀ i ∈ isR, i < N) (hnR : va_nd isR = true) (hdis : ∀ i ∈ isR, i ∉ isC) (hCn : ∀ u, isC.map (fun i => (wn u)[i]?) = (wf u).map some) (hNn : ∀ u, (wn u).length = N) (mk : List Bool) (hm : ∀ i ∈ isR, mk[i]? = some false) (hu : ∀ u, wn u = mgB mk w1 (wn u)) (hsq : pm.map (fun i => (isR ++ isC)[i]?) = (List.range N).map some) (hnp : va_nd pm = true)
    (q0 ci : Nat) {q : vw_C} {fs : List Value} (hc : vwCl[ci]? = some q) (hcn : q.1 = Cn) (he : w1[q0]? = some (b, .inr (ci, fs)))
    (hlen : As.length = n) (hsize : ls.size = nL) (hst : st0 = As.reverse ++ .ref b :: rest) (hW : (rest.map fun v => v.category).sum ≤ 8) (hdg : decode cc pc = .ok (.invokevirtual index, 3)) (hf : cells ≤ R.cells ∧ slots ≤ R.slots)
    (kk : ∀ (r : Int32) (u : S') (H1 : Heap) (locs1 : List Loc), post r u → va_P G vwCl (wn u ++ rs) H1 → va_D A (wn u ++ rs) → va_S A s.heap H1 locs1 → W p l e R s m args below meth c H1 locs1 cells slots Q (F0 m (pc + 3) ls (.int r :: rest))) : W p l e R s m args below meth c H locs cells slots Q (F0 m pc ls st0) :=
  ml_iV S hK hE hA hP hD hS hM cw wn isC isR pm hC hn N hN hlt hnR hdis hCn
    (fun u => List.map_congr_left (fun i hi => by
      have h1 := mgB_get mk w1 (wn u) i (hN.trans (hNn u).symm) (hm i hi)
      rw [← hu u] at h1
      exact h1))
    hNn hsq hnp q0 ci hc hcn he hlen hsize hst hW hdg hf kk
end MLAW3
