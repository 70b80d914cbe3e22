def R_law : String := "RackBenchLaw"
def lw_P (b : Addr) (xs : List Int32) (args : Array Value) (s : State) : Prop := args = #[.ref b] ∧ s.IntsAt b xs ∧ xs.length ≤ 2048 ∧ (Jvm.Cond.and given_1 narrow_1).before args s = true
def lw_Q (_ : Array Value) (s : State) (o : Outcome) (t : State) : Prop := o = .returned (some (.int 1)) ∧ Framed s o t [] 601024 7293034
def lw_Z (below : List Frame) (a : Array Value) (s : State) : State → Prop := fun t => ∃ o, t.status = .running ∧ Ended t below o ∧ lw_Q a s o t
/-- the law's own end, with 1 on the stack, nothing written that was there before, its room as the claim has it -/
theorem lw_ret {p : Program} {l : Launch} {e : Env} {s : State} {m : MethodId} {below : List Frame} {meth : Method} {c : Code} {b : Nat} (hx : p.tables.exec = Jvm.exec) (hb : c.code = code) (hr : meth.sig.returnType = ret) (hlocks : meth.locks = false) {pc : Nat} {H : Heap} {ls : Array Slot} (hdg : decode code pc = .ok (.ireturn, 1)) : W p l e room_1 s m #[Value.ref b] below meth c H [] 601024 7293034 (lw_Z below #[Value.ref b] s) (F0 m pc ls [.int 1]) := by
  intro T hT X
  obtain ⟨fs, hret, hrun, hended, hW, hframe⟩ := X.leave (v := some (.int 1)) (hlocks := hlocks) (fun h => by rw [hr] at h; cases h)
  have hmeth' : T.vm.method? m = some meth := X.method'
  refine ⟨T.setFrames fs, ?_, .returned (some (.int 1)), hrun, hended, rfl, ⟨_, rfl⟩, hW, hframe⟩
  jvm_step X.here [X.here.top, hx, hb, hdg, hmeth', hr, ret, narrow_b1]
  (try refine ⟨rfl, ?_⟩); (try refine ⟨rfl, ?_⟩)
  first | (intro acts; rw [hret _ acts rfl rfl rfl]) | rw [hret _ _ rfl rfl rfl]
  exact Steps.refl _
/-- what holds at the law's entry: the machine, the code, the tables' words (any of lw_tbl by 'hts w (by decide +kernel)'), the script of L ints xs at the cell b, what the Statement gives of the start (any of its parts by flat_of_before) -/
def lw_At (p : Program) (s : State) (m : MethodId) (meth : Method) (c : Code) (b L : Nat) (xs : Nat → Int32) : Prop :=
  p.tables.exec = Jvm.exec ∧ c.code = code ∧ meth.sig.returnType = ret ∧ c.maxLocals = 7 ∧ s.vm.findClass R_law = some m.cls ∧ (∀ w ∈ lw_tbl, w.before #[Value.ref b] s = true) ∧ va_X b L xs s s.heap ∧ b < s.heap.size ∧ meth.locks = false ∧ (Jvm.Cond.and given_1 narrow_1).before #[Value.ref b] s = true
theorem cases33 : ∀ n : Nat, n < 33 → (n = 0 ∨ n = 1 ∨ n = 2 ∨ n = 3 ∨ n = 4 ∨ n = 5 ∨ n = 6 ∨ n = 7 ∨ n = 8 ∨ n = 9 ∨ n = 10 ∨ n = 11 ∨ n = 12 ∨ n = 13 ∨ n = 14 ∨ n = 15 ∨ n = 16 ∨ n = 17 ∨ n = 18 ∨ n = 19 ∨ n = 20 ∨ n = 21 ∨ n = 22 ∨ n = 23 ∨ n = 24 ∨ n = 25 ∨ n = 26 ∨ n = 27 ∨ n = 28 ∨ n = 29 ∨ n = 30 ∨ n = 31 ∨ n = 32) := by
  intro n h
  omega
theorem lw_more {L k : Nat} {i : Int32} (hL : L ≤ 2048) (hk : 4 * k ≤ L + 3) (ei : i = nI (4 * k)) (h : ¬ (Int32.ofNat L - 4 < i)) : 4 * k + 4 ≤ L := by
  subst ei
  rcases Nat.lt_or_ge L 4 with q | q
  · exfalso
    apply h
    rw [Int32.lt_iff_toInt_lt, nI_toInt (by omega)]
    have e : (Int32.ofNat L - 4).toInt = (L : Int) - 4 := by
      rcases (show L = 0 ∨ L = 1 ∨ L = 2 ∨ L = 3 by omega) with rfl | rfl | rfl | rfl <;> decide
    omega
  · rw [show Int32.ofNat L - 4 = nI (L - 4) from pk_sub (a := L) (b := 4) q, nI_ltI (by omega) (by omega)] at h
    omega
set_option maxRecDepth 100000 in
set_option maxHeartbeats 8000000 in
theorem law_loop {p : Program} {l : Launch} {e : Env} {s : State} {m : MethodId} {below : List Frame} {meth : Method} {c : Code} {b L h_t h_m h_o : Nat} {xs : Nat → Int32} {G : va_G} {Y : Nat → ClassId} {tF : Nat} {A : Nat → Prop} (F : LFix p l s m #[Value.ref b] c G Y tF A) (hr : meth.sig.returnType = ret) (hlocks : meth.locks = false) (hAs : ∀ q, A q → s.heap.size ≤ q) (hX : va_X b L xs s s.heap) (hbl : b < s.heap.size) (hbA : ¬ A b) (hL : L ≤ 2048) : ∀ (n k cells slots : Nat) (ls : Array Slot) (H : Heap) (locs : List Loc) (i : Int32), i = nI (4 * k) → 4 * k ≤ L + 3 → L + 4 ≤ 4 * k + 4 * n → cells ≤ 78 + k → slots ≤ 121844 + 6 * k → lv_has ls 7 [(0, .ref b), (1, .ref h_t), (2, .ref h_m), (3, .ref h_o), (4, .int i)] → LI G Y A h_t h_m h_o H → va_S A s.heap H locs → W p l e room_1 s m #[Value.ref b] below meth c H locs cells slots (lw_Z below #[Value.ref b] s) (F0 m 23 ls []) := by
  intro n
  induction n with
  | zero => intro k cells slots ls H locs i _ h1 h2; omega
  | succ n ih =>
    intro k cells slots ls H locs i ei h1 h2 h3 h4 hl hLI hS
    have hx := F.1.1
    have hb := F.1.2.1
    refine lv_iload hx hb dL_law_23 (lv_at hl 4 rfl) ?_
    refine lv_aload_n hx hb dL_law_25 rfl (lv_at hl 0 rfl) ?_
    refine va_slen hx hb hX hbl hbA hS dL_law_26 ?_
    refine lv_iconst (v := 4) hx hb dL_law_27 (by decide) ?_
    refine lv_isub hx hb dL_law_28 ?_
    refine lv_icmp_gt (tgt := 1125) hx hb dL_law_29 (by decide) (fun c9 => ?_) (fun c9 => ?_)
    · refine lv_iconst (v := 1) hx hb dL_law_1125 (by decide) ?_
      refine va_forget (fun q hq => hAs _ (hS.2.2 q hq)) ?_
      refine W.widen (k := 601024) (n := 7293034) (by omega) (by omega) ?_
      exact lw_ret hx hb hr hlocks dL_law_1126
    · have h5 : 4 * k + 4 ≤ L := lw_more hL h1 ei c9
      have e1 : i + 1 = nI (4 * k + 1) := by rw [ei]; exact nI_add (4 * k) 1
      have e2 : i + 2 = nI (4 * k + 2) := by rw [ei]; exact nI_add (4 * k) 2
      have e3 : i + 3 = nI (4 * k + 3) := by rw [ei]; exact nI_add (4 * k) 3
      have hi0 : vp_in i L := by rw [ei]; exact vp_in_nI (by omega) (by omega)
      have hi : vp_in (i + 1) L ∧ vp_in (i + 2) L ∧ vp_in (i + 3) L := ⟨by rw [e1]; exact vp_in_nI (by omega) (by omega), by rw [e2]; exact vp_in_nI (by omega) (by omega), by rw [e3]; exact vp_in_nI (by omega) (by omega)⟩
      clear e1 e2 e3
      refine lv_aload_n hx hb dL_law_32 rfl (lv_at hl 0 rfl) ?_
      refine lv_iload hx hb dL_law_33 (lv_at hl 4 rfl) ?_
      refine va_sld hx hb hX hbl hbA hS hi0 dL_law_35 ?_
      refine lv_bipush (v := 63) hx hb dL_law_36 (by decide) ?_
      refine lv_iand hx hb dL_law_38 ?_
      refine lv_topi (fun x ex => ?_)
      clear ex
      have hnx : ∀ (cells slots : Nat) (ls : Array Slot) (H : Heap) (locs : List Loc), cells ≤ 78 + (k + 1) → slots ≤ 121844 + 6 * (k + 1) → lv_has ls 7 [(0, .ref b), (1, .ref h_t), (2, .ref h_m), (3, .ref h_o), (4, .int i)] → LI G Y A h_t h_m h_o H → va_S A s.heap H locs → W p l e room_1 s m #[Value.ref b] below meth c H locs cells slots (lw_Z below #[Value.ref b] s) (F0 m 1119 ls []) := by
        intro cells slots ls H locs h3 h4 hl hLI hS
        refine lv_iinc (v := i + 4) (lv' := [(4, .int (i + 4)), (0, .ref b), (1, .ref h_t), (2, .ref h_m), (3, .ref h_o)]) hx hb dL_law_1119 hl (k := 4) rfl rfl (by decide) rfl (fun ls hl => ?_)
        refine lv_goto (tgt := 23) hx hb dL_law_1122 (by decide) ?_
        exact ih (k + 1) cells slots ls H locs (i + 4) (by rw [ei, show 4 * (k + 1) = 4 * k + 4 by omega]; exact nI_add (4 * k) 4) (by omega) (by omega) h3 h4 (lv_sub hl [1, 2, 3, 4, 0] rfl) hLI hS
      by_cases hin : x.toInt < 0 ∨ 32 < x.toInt
      · refine lv_tableOut (tgt := 1119) hx hb dL_law_39 hin (by decide) ?_
        exact hnx cells slots ls H locs (by omega) (by omega) hl hLI hS
      · obtain ⟨j, hj, rfl⟩ : ∃ j : Nat, j < 33 ∧ x = nI j := vp_in_of (vp_in_iff.mpr ⟨by omega, by omega⟩) (by decide)
        clear hin
        rcases cases33 j hj with rfl | rfl | rfl | rfl | rfl | rfl | rfl | rfl | rfl | rfl | rfl | rfl | rfl | rfl | rfl | rfl | rfl | rfl | rfl | rfl | rfl | rfl | rfl | rfl | rfl | rfl | rfl | rfl | rfl | rfl | rfl | rfl | rfl
        · refine lv_tableIn (tgt := 184) (off := 145) hx hb dL_law_39 (by decide) (by decide) (by first | decide +kernel | rfl) (by decide) ?_
          exact st_table F hX hbl hbA hl hi (by omega) (by omega) hLI hS (fun ls H locs hl hLI hS => hnx cells slots ls H locs (by omega) (by omega) hl hLI hS)
        · refine lv_tableIn (tgt := 209) (off := 170) hx hb dL_law_39 (by decide) (by decide) (by first | decide +kernel | rfl) (by decide) ?_
          exact st_set F hX hbl hbA hl hi (by omega) (by omega) hLI hS (fun ls H locs hl hLI hS => hnx cells slots ls H locs (by omega) (by omega) hl hLI hS)
        · refine lv_tableIn (tgt := 258) (off := 219) hx hb dL_law_39 (by decide) (by decide) (by first | decide +kernel | rfl) (by decide) ?_
          exact st_at F hX hbl hbA hl hi (by omega) (by omega) hLI hS (fun ls H locs hl hLI hS => hnx (cells + 1) (slots + 6) ls H locs (by omega) (by omega) hl hLI hS)
        · refine lv_tableIn (tgt := 326) (off := 287) hx hb dL_law_39 (by decide) (by decide) (by first | decide +kernel | rfl) (by decide) ?_
          exact st_line F hX hbl hbA hl hi (by omega) (by omega) hLI hS (fun ls H locs hl hLI hS => hnx cells slots ls H locs (by omega) (by omega) hl hLI hS)
        · refine lv_tableIn (tgt := 363) (off := 324) hx hb dL_law_39 (by decide) (by decide) (by first | decide +kernel | rfl) (by decide) ?_
          exact st_turn F hX hbl hbA hl hi (by omega) (by omega) hLI hS (fun ls H locs hl hLI hS => hnx cells slots ls H locs (by omega) (by omega) hl hLI hS)
        · refine lv_tableIn (tgt := 400) (off := 361) hx hb dL_law_39 (by decide) (by decide) (by first | decide +kernel | rfl) (by decide) ?_
          exact st_group F hX hbl hbA hl hi (by omega) (by omega) hLI hS (fun ls H locs hl hLI hS => hnx cells slots ls H locs (by omega) (by omega) hl hLI hS)
        · refine lv_tableIn (tgt := 425) (off := 386) hx hb dL_law_39 (by decide) (by decide) (by first | decide +kernel | rfl) (by decide) ?_
          exact st_keep F hX hbl hbA hl hi (by omega) (by omega) hLI hS (fun ls H locs hl hLI hS => hnx cells slots ls H locs (by omega) (by omega) hl hLI hS)
        · refine lv_tableIn (tgt := 450) (off := 411) hx hb dL_law_39 (by decide) (by decide) (by first | decide +kernel | rfl) (by decide) ?_
          exact st_fetch F hX hbl hbA hl hi (by omega) (by omega) hLI hS (fun ls H locs hl hLI hS => hnx cells slots ls H locs (by omega) (by omega) hl hLI hS)
        · refine lv_tableIn (tgt := 475) (off := 436) hx hb dL_law_39 (by decide) (by decide) (by first | decide +kernel | rfl) (by decide) ?_
          exact st_count F hX hbl hbA hl hi (by omega) (by omega) hLI hS (fun ls H locs hl hLI hS => hnx cells slots ls H locs (by omega) (by omega) hl hLI hS)
        · refine lv_tableIn (tgt := 500) (off := 461) hx hb dL_law_39 (by decide) (by decide) (by first | decide +kernel | rfl) (by decide) ?_
          exact st_wrong F hX hbl hbA hl hi (by omega) (by omega) hLI hS (fun ls H locs hl hLI hS => hnx cells slots ls H locs (by omega) (by omega) hl hLI hS)
        · refine lv_tableIn (tgt := 513) (off := 474) hx hb dL_law_39 (by decide) (by decide) (by first | decide +kernel | rfl) (by decide) ?_
          exact st_is F hX hbl hbA hl hi (by omega) (by omega) hLI hS (fun ls H locs hl hLI hS => hnx cells slots ls H locs (by omega) (by omega) hl hLI hS)
        · refine lv_tableIn (tgt := 538) (off := 499) hx hb dL_law_39 (by decide) (by decide) (by first | decide +kernel | rfl) (by decide) ?_
          exact st_orbits F hX hbl hbA hl hi (by omega) (by omega) hLI hS (fun ls H locs hl hLI hS => hnx cells slots ls H locs (by omega) (by omega) hl hLI hS)
        · refine lv_tableIn (tgt := 551) (off := 512) hx hb dL_law_39 (by decide) (by decide) (by first | decide +kernel | rfl) (by decide) ?_
          exact st_moves F hX hbl hbA hl hi (by omega) (by omega) hLI hS (fun ls H locs hl hLI hS => hnx cells slots ls H locs (by omega) (by omega) hl hLI hS)
        · refine lv_tableIn (tgt := 564) (off := 525) hx hb dL_law_39 (by decide) (by decide) (by first | decide +kernel | rfl) (by decide) ?_
          exact st_keepers F hX hbl hbA hl hi (by omega) (by omega) hLI hS (fun ls H locs hl hLI hS => hnx cells slots ls H locs (by omega) (by omega) hl hLI hS)
        · refine lv_tableIn (tgt := 577) (off := 538) hx hb dL_law_39 (by decide) (by decide) (by first | decide +kernel | rfl) (by decide) ?_
          exact st_least F hX hbl hbA hl hi (by omega) (by omega) hLI hS (fun ls H locs hl hLI hS => hnx cells slots ls H locs (by omega) (by omega) hl hLI hS)
        · refine lv_tableIn (tgt := 590) (off := 551) hx hb dL_law_39 (by decide) (by decide) (by first | decide +kernel | rfl) (by decide) ?_
          exact st_like F hX hbl hbA hl hi (by omega) (by omega) hLI hS (fun ls H locs hl hLI hS => hnx cells slots ls H locs (by omega) (by omega) hl hLI hS)
        · refine lv_tableIn (tgt := 615) (off := 576) hx hb dL_law_39 (by decide) (by decide) (by first | decide +kernel | rfl) (by decide) ?_
          exact st_dual F hX hbl hbA hl hi (by omega) (by omega) hLI hS (fun ls H locs hl hLI hS => hnx cells slots ls H locs (by omega) (by omega) hl hLI hS)
        · refine lv_tableIn (tgt := 628) (off := 589) hx hb dL_law_39 (by decide) (by decide) (by first | decide +kernel | rfl) (by decide) ?_
          exact st_times F hX hbl hbA hl hi (by omega) (by omega) hLI hS (fun ls H locs hl hLI hS => hnx cells slots ls H locs (by omega) (by omega) hl hLI hS)
        · refine lv_tableIn (tgt := 653) (off := 614) hx hb dL_law_39 (by decide) (by decide) (by first | decide +kernel | rfl) (by decide) ?_
          exact st_part F hX hbl hbA hl hi (by omega) (by omega) hLI hS (fun ls H locs hl hLI hS => hnx cells slots ls H locs (by omega) (by omega) hl hLI hS)
        · refine lv_tableIn (tgt := 690) (off := 651) hx hb dL_law_39 (by decide) (by decide) (by first | decide +kernel | rfl) (by decide) ?_
          exact st_within F hX hbl hbA hl hi (by omega) (by omega) hLI hS (fun ls H locs hl hLI hS => hnx cells slots ls H locs (by omega) (by omega) hl hLI hS)
        · refine lv_tableIn (tgt := 715) (off := 676) hx hb dL_law_39 (by decide) (by decide) (by first | decide +kernel | rfl) (by decide) ?_
          exact st_modulus F hX hbl hbA hl hi (by omega) (by omega) hLI hS (fun ls H locs hl hLI hS => hnx cells slots ls H locs (by omega) (by omega) hl hLI hS)
        · refine lv_tableIn (tgt := 740) (off := 701) hx hb dL_law_39 (by decide) (by decide) (by first | decide +kernel | rfl) (by decide) ?_
          exact st_twist F hX hbl hbA hl hi (by omega) (by omega) hLI hS (fun ls H locs hl hLI hS => hnx cells slots ls H locs (by omega) (by omega) hl hLI hS)
        · refine lv_tableIn (tgt := 789) (off := 750) hx hb dL_law_39 (by decide) (by decide) (by first | decide +kernel | rfl) (by decide) ?_
          exact st_twisted F hX hbl hbA hl hi (by omega) (by omega) hLI hS (fun ls H locs hl hLI hS => hnx cells slots ls H locs (by omega) (by omega) hl hLI hS)
        · refine lv_tableIn (tgt := 826) (off := 787) hx hb dL_law_39 (by decide) (by decide) (by first | decide +kernel | rfl) (by decide) ?_
          exact st_closed F hX hbl hbA hl hi (by omega) (by omega) hLI hS (fun ls H locs hl hLI hS => hnx cells slots ls H locs (by omega) (by omega) hl hLI hS)
        · refine lv_tableIn (tgt := 839) (off := 800) hx hb dL_law_39 (by decide) (by decide) (by first | decide +kernel | rfl) (by decide) ?_
          exact st_cover F hX hbl hbA hl hi (by omega) (by omega) hLI hS (fun ls H locs hl hLI hS => hnx cells slots ls H locs (by omega) (by omega) hl hLI hS)
        · refine lv_tableIn (tgt := 852) (off := 813) hx hb dL_law_39 (by decide) (by decide) (by first | decide +kernel | rfl) (by decide) ?_
          exact st_power F hX hbl hbA hl hi (by omega) (by omega) hLI hS (fun ls H locs hl hLI hS => hnx cells slots ls H locs (by omega) (by omega) hl hLI hS)
        · refine lv_tableIn (tgt := 889) (off := 850) hx hb dL_law_39 (by decide) (by decide) (by first | decide +kernel | rfl) (by decide) ?_
          exact st_strands F hX hbl hbA hl hi (by omega) (by omega) hLI hS (fun ls H locs hl hLI hS => hnx cells slots ls H locs (by omega) (by omega) hl hLI hS)
        · refine lv_tableIn (tgt := 914) (off := 875) hx hb dL_law_39 (by decide) (by decide) (by first | decide +kernel | rfl) (by decide) ?_
          exact st_letter F hX hbl hbA hl hi (by omega) (by omega) hLI hS (fun ls H locs hl hLI hS => hnx cells slots ls H locs (by omega) (by omega) hl hLI hS)
        · refine lv_tableIn (tgt := 939) (off := 900) hx hb dL_law_39 (by decide) (by decide) (by first | decide +kernel | rfl) (by decide) ?_
          exact st_colours F hX hbl hbA hl hi (by omega) (by omega) hLI hS (fun ls H locs hl hLI hS => hnx cells slots ls H locs (by omega) (by omega) hl hLI hS)
        · refine lv_tableIn (tgt := 952) (off := 913) hx hb dL_law_39 (by decide) (by decide) (by first | decide +kernel | rfl) (by decide) ?_
          exact st_sums F hX hbl hbA hl hi (by omega) (by omega) hLI hS (fun ls H locs hl hLI hS => hnx cells slots ls H locs (by omega) (by omega) hl hLI hS)
        · refine lv_tableIn (tgt := 977) (off := 938) hx hb dL_law_39 (by decide) (by decide) (by first | decide +kernel | rfl) (by decide) ?_
          exact st_listed F hX hbl hbA hl hi (by omega) (by omega) hLI hS (fun ls H locs hl hLI hS => hnx cells slots ls H locs (by omega) (by omega) hl hLI hS)
        · refine lv_tableIn (tgt := 1014) (off := 975) hx hb dL_law_39 (by decide) (by decide) (by first | decide +kernel | rfl) (by decide) ?_
          exact st_pick F hX hbl hbA hl hi (by omega) (by omega) hLI hS (fun ls H locs hl hLI hS => hnx cells slots ls H locs (by omega) (by omega) hl hLI hS)
        · refine lv_tableIn (tgt := 1063) (off := 1024) hx hb dL_law_39 (by decide) (by decide) (by first | decide +kernel | rfl) (by decide) ?_
          exact st_row F hX hbl hbA hl hi (by omega) (by omega) hLI hS (fun ls H locs hl hLI hS => hnx (cells + 1) (slots + 6) ls H locs (by omega) (by omega) hl hLI hS)
