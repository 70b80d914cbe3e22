/-! Colourings of a closed braid. -/
theorem row_inj {T : Nat → Nat → Nat} {N : Nat} (hT : ∀ a b, a < N → b < N → T a b < N) (h : torn T N = none) {a i j : Nat} (ha : a < N) (hi : i < N) (hj : j < N) (e : T a i = T a j) : i = j := by
  have hg : ∀ v, v < N → lst (T a) v N < N ∧ T a (lst (T a) v N) = v := fun v hv => lst_ok (torn_onto hT h ha hv)
  have hinj : ∀ u v, u < v → v < N → lst (T a) u N ≠ lst (T a) v N := by
    intro u v huv hv q
    have e1 := (hg u (by omega)).2
    have e2 := (hg v hv).2
    rw [q] at e1
    omega
  obtain ⟨u, hu, eu⟩ := fb_onto (f := fun v => lst (T a) v N) (fun v hv => (hg v hv).1) hinj hi
  obtain ⟨v, hv, ev⟩ := fb_onto (f := fun v => lst (T a) v N) (fun v hv => (hg v hv).1) hinj hj
  have e1 := (hg u hu).2
  have e2 := (hg v hv).2
  rw [eu] at e1
  rw [ev] at e2
  rw [← eu, ← ev, ← e1, ← e2, e]
def updN (c : Nat → Nat) (i v : Nat) : Nat → Nat := fun j => if j = i then v else c j
theorem lbl_upd {f : Nat → Int32} {w : Nat} {c : Nat → Nat} (h : lbl f w c) (i v : Nat) : lbl (upd f i (nI v)) w (updN c i v) := by
  intro k hk
  unfold updN
  by_cases e : k = i
  · rw [if_pos e, e, pk_us]
  · rw [if_neg e, pk_un e]
    exact h k hk
theorem updN_lt {c : Nat → Nat} {w N i v : Nat} (h : ∀ s, s < w → c s < N) (hv : v < N) : ∀ s, s < w → updN c i v s < N := by
  intro s hs
  unfold updN
  by_cases e : s = i
  · rw [if_pos e]
    exact hv
  · rw [if_neg e]
    exact h s hs
/-- one letter: the colours, and what it adds -/
def stC (T : Nat → Nat → Nat) (N : Nat) (d : Int32) (c : Nat → Nat) : Nat → Nat :=
  if d ≤ 0 then updN (updN c ((-d).toNatClampNeg - 1) (c (-d).toNatClampNeg)) (-d).toNatClampNeg (dualT T N (c (-d).toNatClampNeg) (c ((-d).toNatClampNeg - 1)))
  else updN (updN c (d.toNatClampNeg - 1) (T (c (d.toNatClampNeg - 1)) (c d.toNatClampNeg))) d.toNatClampNeg (c (d.toNatClampNeg - 1))
def stS (T : Nat → Nat → Nat) (N : Nat) (v : Nat → Int32) (d : Int32) (c : Nat → Nat) : Int32 :=
  if d ≤ 0 then -(v (8 * c (-d).toNatClampNeg + dualT T N (c (-d).toNatClampNeg) (c ((-d).toNatClampNeg - 1))))
  else v (8 * c (d.toNatClampNeg - 1) + c d.toNatClampNeg)
def bwC (T : Nat → Nat → Nat) (N : Nat) (wd : Nat → Int32) (c0 : Nat → Nat) : Nat → Nat → Nat
  | 0 => c0
  | k + 1 => stC T N (wd k) (bwC T N wd c0 k)
def bwS (T : Nat → Nat → Nat) (N : Nat) (v wd : Nat → Int32) (c0 : Nat → Nat) : Nat → Int32
  | 0 => 0
  | k + 1 => bwS T N v wd c0 k + stS T N v (wd k) (bwC T N wd c0 k)
theorem let3 : ∀ j, j < 4 → 1 ≤ j → ((if (0 : Int32) ≤ -nI j then -nI j else 0 - -nI j) - 1 = nI (j - 1) ∧ -nI j ≤ 0 ∧ - -nI j = nI j) ∧ ((if (0 : Int32) ≤ nI j then nI j else 0 - nI j) - 1 = nI (j - 1) ∧ ¬ nI j ≤ 0) ∧ nI (j - 1) + 1 = nI j ∧ nI j - 1 = nI (j - 1) := by decide +kernel
/-- a letter of w strands -/
def isLet (w : Nat) (d : Int32) : Prop := ∃ j : Nat, 1 ≤ j ∧ j < w ∧ (d = nI j ∨ d = -nI j)
theorem stC_pos (T : Nat → Nat → Nat) (N : Nat) (c : Nat → Nat) {j : Nat} (h1 : 1 ≤ j) (h4 : j < 4) : stC T N (nI j) c = updN (updN c (j - 1) (T (c (j - 1)) (c j))) j (c (j - 1)) := by
  unfold stC
  rw [if_neg (let3 j h4 h1).2.1.2, nI_clamp (by omega)]
theorem stC_neg (T : Nat → Nat → Nat) (N : Nat) (c : Nat → Nat) {j : Nat} (h1 : 1 ≤ j) (h4 : j < 4) : stC T N (-nI j) c = updN (updN c (j - 1) (c j)) j (dualT T N (c j) (c (j - 1))) := by
  unfold stC
  rw [if_pos (let3 j h4 h1).1.2.1, (let3 j h4 h1).1.2.2, nI_clamp (by omega)]
theorem stS_pos (T : Nat → Nat → Nat) (N : Nat) (v : Nat → Int32) (c : Nat → Nat) {j : Nat} (h1 : 1 ≤ j) (h4 : j < 4) : stS T N v (nI j) c = v (8 * c (j - 1) + c j) := by
  unfold stS
  rw [if_neg (let3 j h4 h1).2.1.2, nI_clamp (by omega)]
theorem stS_neg (T : Nat → Nat → Nat) (N : Nat) (v : Nat → Int32) (c : Nat → Nat) {j : Nat} (h1 : 1 ≤ j) (h4 : j < 4) : stS T N v (-nI j) c = -(v (8 * c j + dualT T N (c j) (c (j - 1)))) := by
  unfold stS
  rw [if_pos (let3 j h4 h1).1.2.1, (let3 j h4 h1).1.2.2, nI_clamp (by omega)]
theorem dual_ok {T : Nat → Nat → Nat} {N : Nat} (hT : ∀ a b, a < N → b < N → T a b < N) (h : torn T N = none) {a v : Nat} (ha : a < N) (hv : v < N) : dualT T N a v < N ∧ T a (dualT T N a v) = v := lst_ok (torn_onto hT h ha hv)
theorem bwC_lt {T : Nat → Nat → Nat} {N w len : Nat} {wd : Nat → Int32} {c0 : Nat → Nat} (hT : ∀ a b, a < N → b < N → T a b < N) (hr : torn T N = none) (hw : w ≤ 4) (hl : ∀ i, i < len → isLet w (wd i)) (h0 : ∀ s, s < w → c0 s < N) : ∀ k, k ≤ len → ∀ s, s < w → bwC T N wd c0 k s < N
  | 0, _ => h0
  | k + 1, hk => by
    have ih := bwC_lt hT hr hw hl h0 k (by omega)
    obtain ⟨j, h1, h2, e | e⟩ := hl k (by omega)
    · unfold bwC
      rw [e, stC_pos T N _ h1 (by omega)]
      exact updN_lt (updN_lt ih (hT _ _ (ih _ (by omega)) (ih _ (by omega)))) (ih _ (by omega))
    · unfold bwC
      rw [e, stC_neg T N _ h1 (by omega)]
      exact updN_lt (updN_lt ih (ih _ (by omega))) (dual_ok hT hr (ih _ (by omega)) (ih _ (by omega))).1
theorem bwS_bd {T : Nat → Nat → Nat} {N w len m : Nat} {v wd : Nat → Int32} {c0 : Nat → Nat} (hT : ∀ a b, a < N → b < N → T a b < N) (hr : torn T N = none) (hN : N ≤ 8) (hw : w ≤ 4) (hl : ∀ i, i < len → isLet w (wd i)) (h0 : ∀ s, s < w → c0 s < N) (hm : m ≤ 7) (hv : ∀ j, j < 64 → ∃ a, a < m ∧ v j = nI a) (hlen : len ≤ 24) :
    ∀ k, k ≤ len → -(6 * k : Int) ≤ (bwS T N v wd c0 k).toInt ∧ (bwS T N v wd c0 k).toInt ≤ 6 * k
  | 0, _ => by simp [bwS]
  | k + 1, hk => by
    obtain ⟨i1, i2⟩ := bwS_bd (v := v) hT hr hN hw hl h0 hm hv hlen k (by omega)
    have ih := bwC_lt hT hr hw hl h0 k (by omega)
    unfold bwS
    have key : -(6 : Int) ≤ (stS T N v (wd k) (bwC T N wd c0 k)).toInt ∧ (stS T N v (wd k) (bwC T N wd c0 k)).toInt ≤ 6 := by
      obtain ⟨j, h1, h2, e | e⟩ := hl k (by omega)
      · rw [e, stS_pos T N v _ h1 (by omega)]
        have b1 := ih (j - 1) (by omega)
        have b2 := ih j (by omega)
        obtain ⟨a, ha, ea⟩ := hv (8 * bwC T N wd c0 k (j - 1) + bwC T N wd c0 k j) (by omega)
        rw [ea, nI_toInt (by omega)]
        omega
      · rw [e, stS_neg T N v _ h1 (by omega)]
        have b1 := ih (j - 1) (by omega)
        have b2 := ih j (by omega)
        have b3 := (dual_ok hT hr b2 b1).1
        obtain ⟨a, ha, ea⟩ := hv (8 * bwC T N wd c0 k j + dualT T N (bwC T N wd c0 k j) (bwC T N wd c0 k (j - 1))) (by omega)
        rw [ea, n_negT (by omega)]
        omega
    rw [fb_addI (by omega) (by omega)]
    omega
def dg (N st s : Nat) : Nat := st / N ^ s % N
theorem s_spread {w N st : Nat} {ah nw : Nat → Int32} {K : (Nat → Int32) → (Nat → Int32) → Prop} (hw : w ≤ 4) (h1 : 1 ≤ N) (hN : N ≤ 8) (hst : st < 2 ^ 31) (h : ∀ ah' nw', lbl ah' w (dg N st) → lbl nw' w (dg N st) → K ah' nw') : pX0_spread (nI w) ah nw (nI st) (nI N) K := by
  refine lpW4_for w (fun i x3 x4 f g => x4 = nI i ∧ x3 = nI (st / N ^ i) ∧ lbl f i (dg N st) ∧ lbl g i (dg N st)) 0 (Nat.zero_le _) ⟨nI_0.symm, by rw [Nat.pow_zero, Nat.div_one], fun k hk => absurd hk (Nat.not_lt_zero _), fun k hk => absurd hk (Nat.not_lt_zero _)⟩ ?_
  rintro i hi x3 x4 f g ⟨rfl, rfl, hf, hg⟩ R hR
  refine pk_le w i (fun hle => ?_) (fun hlt => ?_)
  · have e : i = w := by omega
    subst e
    exact h f g hf hg
  · have hne : ¬ nI N = 0 := nI_ne0 (by omega) (by omega)
    have hq : st / N ^ i < 2 ^ 31 := Nat.lt_of_le_of_lt (Nat.div_le_self _ _) hst
    refine ⟨hne, vp_in_nI (by omega) (by decide), vp_in_nI (by omega) (by decide), vp_in_nI (by omega) (by decide), hne, ?_⟩
    rw [nI_clamp (by omega), pk_us, pk_rem hq (by omega) (by omega), pk_div hq (by omega) (by omega)]
    refine hR hlt _ _ _ _ ⟨nI_1 i, by rw [Nat.div_div_eq_div_mul, ← Nat.pow_succ], fun k hk => ?_, fun k hk => ?_⟩
    · by_cases e : k = i
      · rw [e, pk_us]
        rfl
      · rw [pk_un e]
        exact hf k (by omega)
    · by_cases e : k = i
      · rw [e, pk_us]
        rfl
      · rw [pk_un e]
        exact hg k (by omega)
theorem s_asAhead {w N : Nat} {c c0 : Nat → Nat} {ah nw : Nat → Int32} {K : Int32 → Prop} (hw : w ≤ 4) (hN : N ≤ 8) (hc : ∀ s, s < w → c s < N) (hc0 : ∀ s, s < w → c0 s < N) (ha : lbl ah w c0) (hn : lbl nw w c) (h : K (bI (al (fun s => c s == c0 s) w))) : pX0_isAsAhead (nI w) ah nw K := by
  refine lpW1_for w (fun i x => x = nI i ∧ al (fun s => c s == c0 s) i = true) 0 (Nat.zero_le _) ⟨nI_0.symm, rfl⟩ ?_
  rintro i hi x ⟨rfl, hI⟩ R hR
  refine pk_le w i (fun hle => ?_) (fun hlt => ?_)
  · have e : i = w := by omega
    subst e
    rw [hI] at h
    exact z1 h
  · have b1 := hc i hlt
    have b2 := hc0 i hlt
    refine ⟨vp_in_nI (by omega) (by decide), vp_in_nI (by omega) (by decide), ?_⟩
    rw [nI_clamp (by omega), hn i hlt, ha i hlt]
    refine pk_eq (c i) (c0 i) (fun e => hR hlt _ ⟨nI_1 i, ?_⟩) (fun e => z0 ?_)
    · rw [al_s, hI]
      simp [e]
    · rw [al_no (p := fun s => c s == c0 s) (i := i) (by simp [e]) hlt] at h
      exact h
def okc (T : Nat → Nat → Nat) (N w len : Nat) (wd : Nat → Int32) (st : Nat) : Bool := al (fun s => bwC T N wd (dg N st) len s == dg N st s) w
def smc (T : Nat → Nat → Nat) (N len m : Nat) (v wd : Nat → Int32) (st : Nat) : Nat := ((bwS T N v wd (dg N st) len).toInt % (m : Int)).toNat
theorem smc_lt {T : Nat → Nat → Nat} {N len m : Nat} {v wd : Nat → Int32} {st : Nat} (hm : 1 ≤ m) : smc T N len m v wd st < m := by
  unfold smc
  have h1 := Int.emod_nonneg (bwS T N v wd (dg N st) len).toInt (show (m : Int) ≠ 0 by omega)
  have h2 := Int.emod_lt_of_pos (bwS T N v wd (dg N st) len).toInt (show (0 : Int) < m by omega)
  omega
theorem pw_le {N w : Nat} (hN : N ≤ 8) (hw : w ≤ 4) : N ^ w ≤ 4096 := Nat.le_trans (Nat.pow_le_pow_left hN w) (Nat.le_trans (Nat.pow_le_pow_right (by decide) hw) (by decide))
theorem dg_lt {N st s : Nat} (h1 : 1 ≤ N) : dg N st s < N := Nat.mod_lt _ (by omega)
theorem s_tally {T : Nat → Nat → Nat} {N w len m : Nat} {ah nw ta wd c cd wv : Nat → Int32} {K : (Nat → Int32) → (Nat → Int32) → (Nat → Int32) → Prop} (ht : tab c N T) (h1 : 1 ≤ N) (hN : N ≤ 8) (hr : torn T N = none) (hd : ∀ a v, a < N → v < N → cd (8 * a + v) = nI (dualT T N a v)) (hw : w ≤ 4) (hlen : len ≤ 24) (hm1 : 1 ≤ m) (hm : m ≤ 7) (hv : ∀ j, j < 64 → ∃ a, a < m ∧ wv j = nI a)
    (hl : ∀ i, i < len → isLet w (wd i)) (h : ∀ ah' nw' ta', lbl ta' m (fun j => fb_ct (fun k => okc T N w len wd k && smc T N len m wv wd k == j) (N ^ w)) → K ah' nw' ta') : pX0_tally (nI w) (nI len) ah nw ta wd (nI N) c cd (nI m) wv K := by
  have hT := tab_T ht
  have h4 := pw_le hN hw
  refine s_fill (by decide) ?_
  refine lpW2_for w (fun i x4 x5 => x5 = nI i ∧ x4 = nI (N ^ i)) 0 (Nat.zero_le _) ⟨nI_0.symm, rfl⟩ ?_
  rintro i hi x4 x5 ⟨rfl, rfl⟩ R hR
  refine pk_le w i (fun hle => ?_) (fun hlt => ?_)
  · have e : i = w := by omega
    subst e
    refine lpW4_for (N ^ i) (fun k x5 f g t => x5 = nI k ∧ lbl t m (fun j => fb_ct (fun k => okc T N i len wd k && smc T N len m wv wd k == j) k)) 0 (Nat.zero_le _) ⟨nI_0.symm, fun j hj => by rw [fa_fill_in (by omega)]; rfl⟩ ?_
    rintro k hk x5 f g t ⟨rfl, ht2⟩ R1 hR1
    refine pk_le (N ^ i) k (fun hle2 => ?_) (fun hlt2 => ?_)
    · have e : k = N ^ i := by omega
      subst e
      exact h f g t ht2
    · refine s_spread hw h1 hN (by omega) (fun ah' nw' hah hnw => ?_)
      refine lpW3_for len (fun p x6 x7 g => x7 = nI p ∧ x6 = bwS T N wv wd (dg N k) p ∧ lbl g i (bwC T N wd (dg N k) p)) 0 (Nat.zero_le _) ⟨nI_0.symm, rfl, hnw⟩ ?_
      rintro p hp x6 x7 g ⟨rfl, rfl, hg⟩ R2 hR2
      have hcl := bwC_lt hT hr hw hl (c0 := dg N k) (fun s _ => dg_lt h1) p hp
      refine pk_le len p (fun hle3 => ?_) (fun hlt3 => ?_)
      · have e : p = len := by omega
        subst e
        have hbd := bwS_bd (v := wv) hT hr hN hw hl (c0 := dg N k) (fun s _ => dg_lt h1) hm hv hlen p (Nat.le_refl _)
        have hsm := smc_lt (T := T) (N := N) (len := p) (m := m) (v := wv) (wd := wd) (st := k) hm1
        refine s_asAhead hw hN hcl (fun s _ => dg_lt h1) hah hg (bI_c _ (fun e => ?_) (fun e => ?_))
        · refine hR1 hlt2 _ _ _ _ ⟨nI_1 k, fun j hj => ?_⟩
          have e' : okc T N i p wd k = false := e
          show _ = nI (fb_ct _ (k + 1))
          rw [fb_ct_succ, e']
          exact ht2 j hj
        · refine s_floorMod (by omega) (by omega) hm1 (by omega) ?_
          have es : nI ((bwS T N wv wd (dg N k) p).toInt % (m : Int)).toNat = nI (smc T N p m wv wd k) := rfl
          rw [es]
          refine ⟨vp_in_nI (by omega) (by decide), vp_in_nI (by omega) (by decide), ?_⟩
          rw [nI_clamp (by omega)]
          refine hR1 hlt2 _ _ _ _ ⟨nI_1 k, fun j hj => ?_⟩
          have e' : okc T N i p wd k = true := e
          show _ = nI (fb_ct _ (k + 1))
          rw [fb_ct_succ, e']
          by_cases ej : j = smc T N p m wv wd k
          · rw [← ej, pk_us, ht2 j hj]
            simp only [beq_self_eq_true, Bool.and_self, if_true]
            exact nI_1 _
          · rw [pk_un ej, ht2 j hj]
            have ej' : ¬ smc T N p m wv wd k = j := fun z => ej z.symm
            simp [ej']
      · refine ⟨vp_in_nI (by omega) (by decide), ?_⟩
        rw [nI_clamp (by omega)]
        obtain ⟨j, j1, j2, e | e⟩ := hl p hlt3
        · have l3 := let3 j (by omega) j1
          have b1 := hcl (j - 1) (by omega)
          have b2 := hcl j j2
          have b3 := hT _ _ b1 b2
          rw [e]
          refine ⟨fun q => absurd q l3.2.1.2, fun _ => ⟨vp_in_nI (by omega) (by decide), ?_⟩⟩
          unfold pX0_cross
          rw [l3.2.2.2, nI_clamp (by omega), nI_clamp (by omega), hg (j - 1) (by omega), hg j j2]
          refine ⟨vp_in_nI (by omega) (by decide), vp_in_nI (by omega) (by decide), t_turned ht hN b1 b2 ⟨vp_in_nI (by omega) (by decide), vp_in_nI (by omega) (by decide), e_value (by omega) (by omega) ?_⟩⟩
          refine hR2 hlt3 _ _ _ ⟨nI_1 p, ?_, ?_⟩
          · show _ = bwS T N wv wd (dg N k) p + stS T N wv (wd p) (bwC T N wd (dg N k) p)
            rw [e, stS_pos T N wv _ j1 (by omega)]
          · show lbl _ i (stC T N (wd p) (bwC T N wd (dg N k) p))
            rw [e, stC_pos T N _ j1 (by omega)]
            exact lbl_upd (lbl_upd hg _ _) _ _
        · have l3 := let3 j (by omega) j1
          have b1 := hcl (j - 1) (by omega)
          have b2 := hcl j j2
          have b3 := (dual_ok hT hr b2 b1).1
          rw [e]
          refine ⟨fun _ => ⟨vp_in_nI (by omega) (by decide), ?_⟩, fun q => absurd l3.1.2.1 q⟩
          rw [l3.1.2.2]
          unfold pX0_uncross
          rw [l3.2.2.2, nI_clamp (by omega), nI_clamp (by omega), hg (j - 1) (by omega), hg j j2]
          refine ⟨vp_in_nI (by omega) (by decide), vp_in_nI (by omega) (by decide), e_turned (by omega) (by omega) ?_⟩
          rw [hd _ _ b2 b1]
          refine ⟨vp_in_nI (by omega) (by decide), vp_in_nI (by omega) (by decide), e_value (by omega) (by omega) ?_⟩
          refine hR2 hlt3 _ _ _ ⟨nI_1 p, ?_, ?_⟩
          · show _ = bwS T N wv wd (dg N k) p + stS T N wv (wd p) (bwC T N wd (dg N k) p)
            rw [e, stS_neg T N wv _ j1 (by omega)]
          · show lbl _ i (stC T N (wd p) (bwC T N wd (dg N k) p))
            rw [e, stC_neg T N _ j1 (by omega)]
            exact lbl_upd (lbl_upd hg _ _) _ _
  · refine hR hlt _ _ ⟨nI_1 i, ?_⟩
    rw [pk_mul, Nat.pow_succ]
theorem s_sumOf {T : Nat → Nat → Nat} {N w len m st : Nat} {co md mt mv wd wv : Nat → Int32} {K : Int32 → (Nat → Int32) → Prop} (ht : tab mt N T) (h1 : 1 ≤ N) (hN : N ≤ 8) (hr : torn T N = none) (hw : w ≤ 4) (hlen : len ≤ 24) (hm1 : 1 ≤ m) (hm : m ≤ 7) (hv : ∀ j, j < 64 → ∃ a, a < m ∧ wv j = nI a) (hvv : ∀ j, j < 64 → mv j = wv j) (hst : st < 2 ^ 31)
    (hl : ∀ i, i < len → isLet w (wd i)) (hdd : ∀ i, i < len → md i = wd i) (hy : okc T N w len wd st = true → ∀ co', K (nI (smc T N len m wv wd st)) co') (hn : okc T N w len wd st = false → ∀ co', K (-1) co') : pX11_sumOf (nI N) (nI m) (nI w) (nI len) co md mt mv (nI st) K := by
  have hT := tab_T ht
  have hne : ¬ nI N = 0 := nI_ne0 (by omega) (by omega)
  refine lpW3_for w (fun i x2 x3 f => x3 = nI i ∧ x2 = nI (st / N ^ i) ∧ lbl f i (dg N st)) 0 (Nat.zero_le _) ⟨nI_0.symm, by rw [Nat.pow_zero, Nat.div_one], fun k hk => absurd hk (Nat.not_lt_zero _)⟩ ?_
  rintro i hi x2 x3 f ⟨rfl, rfl, hf⟩ R hR
  refine pk_le w i (fun hle => ?_) (fun hlt => ?_)
  · have e : i = w := by omega
    subst e
    refine lpW3_for len (fun p x3 x4 g => x4 = nI p ∧ x3 = bwS T N wv wd (dg N st) p ∧ lbl g i (bwC T N wd (dg N st) p)) 0 (Nat.zero_le _) ⟨nI_0.symm, rfl, hf⟩ ?_
    rintro p hp x3 x4 g ⟨rfl, rfl, hg⟩ R2 hR2
    have hcl := bwC_lt hT hr hw hl (c0 := dg N st) (fun s _ => dg_lt h1) p hp
    refine pk_le len p (fun hle3 => ?_) (fun hlt3 => ?_)
    · have e : p = len := by omega
      subst e
      have hbd := bwS_bd (v := wv) hT hr hN hw hl (c0 := dg N st) (fun s _ => dg_lt h1) hm hv hlen p (Nat.le_refl _)
      refine lpW2_for i (fun q x2 x4 => x4 = nI q ∧ x2 = nI (st / N ^ q) ∧ al (fun s => bwC T N wd (dg N st) p s == dg N st s) q = true) 0 (Nat.zero_le _) ⟨nI_0.symm, by rw [Nat.pow_zero, Nat.div_one], rfl⟩ ?_
      rintro q hq x2 x4 ⟨rfl, rfl, hI⟩ R3 hR3
      refine pk_le i q (fun hle4 => ?_) (fun hlt4 => ?_)
      · have e : q = i := by omega
        subst e
        exact s_floorMod (by omega) (by omega) hm1 (by omega) (hy hI g)
      · have hq2 : st / N ^ q < 2 ^ 31 := Nat.lt_of_le_of_lt (Nat.div_le_self _ _) hst
        have b1 := hcl q hlt4
        have b2 := dg_lt (N := N) (st := st) (s := q) h1
        refine ⟨vp_in_nI (by omega) (by decide), hne, ?_⟩
        rw [nI_clamp (by omega), hg q hlt4, pk_rem hq2 (by omega) (by omega), pk_div hq2 (by omega) (by omega)]
        have ed : st / N ^ q % N = dg N st q := rfl
        rw [ed]
        refine pk_eq (bwC T N wd (dg N st) p q) (dg N st q) (fun e => ⟨hne, hR3 hlt4 _ _ ⟨nI_1 q, by rw [Nat.div_div_eq_div_mul, ← Nat.pow_succ], ?_⟩⟩) (fun e => hn ?_ g)
        · rw [al_s, hI]
          simp [e]
        · exact al_no (p := fun s => bwC T N wd (dg N st) p s == dg N st s) (i := q) (by simp [e]) hlt4
    · refine ⟨vp_in_nI (by omega) (by decide), ?_⟩
      rw [nI_clamp (by omega), hdd p hlt3]
      obtain ⟨j, j1, j2, e | e⟩ := hl p hlt3
      · have l3 := let3 j (by omega) j1
        have b1 := hcl (j - 1) (by omega)
        have b2 := hcl j j2
        have b3 := hT _ _ b1 b2
        rw [e, l3.2.1.1, l3.2.2.1, nI_clamp (by omega), nI_clamp (by omega), hg (j - 1) (by omega), hg j j2]
        refine ⟨vp_in_nI (by omega) (by decide), vp_in_nI (by omega) (by decide), vp_in_nI (by omega) (by decide), fun q => absurd q l3.2.1.2, fun _ => ?_⟩
        refine e_twistOf (by omega) (by omega) (t_by ht hN b1 b2 ⟨vp_in_nI (by omega) (by decide), vp_in_nI (by omega) (by decide), ?_⟩)
        rw [hvv _ (by omega)]
        refine hR2 hlt3 _ _ _ ⟨nI_1 p, ?_, ?_⟩
        · show _ = bwS T N wv wd (dg N st) p + stS T N wv (wd p) (bwC T N wd (dg N st) p)
          rw [e, stS_pos T N wv _ j1 (by omega)]
        · show lbl _ i (stC T N (wd p) (bwC T N wd (dg N st) p))
          rw [e, stC_pos T N _ j1 (by omega)]
          exact lbl_upd (lbl_upd hg _ _) _ _
      · have l3 := let3 j (by omega) j1
        have b1 := hcl (j - 1) (by omega)
        have b2 := hcl j j2
        obtain ⟨b3, b4⟩ := dual_ok hT hr b2 b1
        rw [e, l3.1.1, l3.2.2.1, nI_clamp (by omega), nI_clamp (by omega), hg (j - 1) (by omega), hg j j2]
        refine ⟨vp_in_nI (by omega) (by decide), vp_in_nI (by omega) (by decide), vp_in_nI (by omega) (by decide), fun _ => ?_, fun q => absurd l3.1.2.1 q⟩
        refine lpW1_for (dualT T N (bwC T N wd (dg N st) p j) (bwC T N wd (dg N st) p (j - 1))) (fun z x => x = nI z) 0 (Nat.zero_le _) nI_0.symm ?_
        rintro z hz x rfl R3 hR3
        refine t_by ht hN b2 (by omega) ?_
        have b5 := hT _ z b2 (by omega)
        refine pk_eq (T (bwC T N wd (dg N st) p j) z) (bwC T N wd (dg N st) p (j - 1)) (fun ez => ?_) (fun ez => ?_)
        · have ezz : z = dualT T N (bwC T N wd (dg N st) p j) (bwC T N wd (dg N st) p (j - 1)) := row_inj hT hr b2 (by omega) b3 (by rw [ez, b4])
          subst ezz
          refine e_twistOf (by omega) (by omega) ⟨vp_in_nI (by omega) (by decide), ?_⟩
          rw [l3.2.2.1, nI_clamp (by omega), nI_clamp (by omega), hvv _ (by omega)]
          refine ⟨vp_in_nI (by omega) (by decide), hR2 hlt3 _ _ _ ⟨nI_1 p, ?_, ?_⟩⟩
          · show _ = bwS T N wv wd (dg N st) p + stS T N wv (wd p) (bwC T N wd (dg N st) p)
            rw [e, stS_neg T N wv _ j1 (by omega), Int32.sub_eq_add_neg]
          · show lbl _ i (stC T N (wd p) (bwC T N wd (dg N st) p))
            rw [e, stC_neg T N _ j1 (by omega)]
            exact lbl_upd (lbl_upd hg _ _) _ _
        · refine hR3 ?_ _ (nI_1 z)
          rcases Nat.lt_or_ge z (dualT T N (bwC T N wd (dg N st) p j) (bwC T N wd (dg N st) p (j - 1))) with q | q
          · exact q
          · have e6 : z = dualT T N (bwC T N wd (dg N st) p j) (bwC T N wd (dg N st) p (j - 1)) := by omega
            rw [e6] at ez
            exact absurd b4 ez
  · have hq : st / N ^ i < 2 ^ 31 := Nat.lt_of_le_of_lt (Nat.div_le_self _ _) hst
    refine ⟨hne, vp_in_nI (by omega) (by decide), hne, ?_⟩
    rw [nI_clamp (by omega), pk_rem hq (by omega) (by omega), pk_div hq (by omega) (by omega)]
    refine hR hlt _ _ _ ⟨nI_1 i, by rw [Nat.div_div_eq_div_mul, ← Nat.pow_succ], fun k hk => ?_⟩
    by_cases e : k = i
    · rw [e, pk_us]
      rfl
    · rw [pk_un e]
      exact hf k (by omega)
theorem s_colourings {T : Nat → Nat → Nat} {N w len m : Nat} {co md mt mv wd wv : Nat → Int32} {x1 : Int32} {g : Nat → Bool} {K : Int32 → (Nat → Int32) → Prop} (ht : tab mt N T) (h1 : 1 ≤ N) (hN : N ≤ 8) (hr : torn T N = none) (hw : w ≤ 4) (hlen : len ≤ 24) (hm1 : 1 ≤ m) (hm : m ≤ 7) (hv : ∀ j, j < 64 → ∃ a, a < m ∧ wv j = nI a) (hvv : ∀ j, j < 64 → mv j = wv j)
    (hl : ∀ i, i < len → isLet w (wd i)) (hdd : ∀ i, i < len → md i = wd i) (hg : ∀ k, okc T N w len wd k = true → (x1 < 0 ∧ g k = true) ∨ (¬ x1 < 0 ∧ (g k = true ↔ nI (smc T N len m wv wd k) = x1))) (hg0 : ∀ k, okc T N w len wd k = false → g k = false) (h : ∀ co', K (nI (fb_ct g (N ^ w))) co') : pX11_colourings (nI N) (nI m) (nI w) (nI len) co md mt mv x1 K := by
  have h4 := pw_le hN hw
  refine lpW2_for w (fun i x2 x3 => x3 = nI i ∧ x2 = nI (N ^ i)) 0 (Nat.zero_le _) ⟨nI_0.symm, rfl⟩ ?_
  rintro i hi x2 x3 ⟨rfl, rfl⟩ R hR
  refine pk_le w i (fun hle => ?_) (fun hlt => ?_)
  · have e : i = w := by omega
    subst e
    refine lpW3_for (N ^ i) (fun k x3 x4 f => x4 = nI k ∧ x3 = nI (fb_ct g k)) 0 (Nat.zero_le _) ⟨nI_0.symm, nI_0.symm⟩ ?_
    rintro k hk x3 x4 f ⟨rfl, rfl⟩ R1 hR1
    refine pk_le (N ^ i) k (fun hle2 => ?_) (fun hlt2 => ?_)
    · have e : k = N ^ i := by omega
      subst e
      exact h f
    · have f1 : ∀ co', g k = true → R1 (nI (fb_ct g k) + 1) (nI k + 1) co' := fun co' e => hR1 hlt2 _ _ _ ⟨nI_1 k, by rw [fb_ct_succ, e]; exact nI_1 _⟩
      have f0 : ∀ co', g k = false → R1 (nI (fb_ct g k) + 0) (nI k + 1) co' := fun co' e => hR1 hlt2 _ _ _ ⟨nI_1 k, by rw [fb_ct_succ, e]; exact Int32.add_zero _⟩
      refine s_sumOf ht h1 hN hr hw hlen hm1 hm hv hvv (by omega) hl hdd (fun e co' => ?_) (fun e co' => ?_)
      · have hsm := smc_lt (T := T) (N := N) (len := len) (m := m) (v := wv) (wd := wd) (st := k) hm1
        refine ⟨fun q => absurd q (nI_pos (by omega)), fun _ => ?_⟩
        rcases hg k e with ⟨q1, q2⟩ | ⟨q1, q2⟩
        · exact ⟨fun _ => f1 co' q2, fun q => absurd q1 q⟩
        · refine ⟨fun q => absurd q q1, fun _ => ⟨fun q => f0 co' ?_, fun q => f1 co' (q2.mpr q)⟩⟩
          cases eg : g k with
          | true => exact absurd (q2.mp eg) q
          | false => rfl
      · exact ⟨fun _ => f0 co' (hg0 k e), fun q => absurd (by decide) q⟩
  · refine hR hlt _ _ ⟨nI_1 i, ?_⟩
    rw [pk_mul, Nat.pow_succ]
theorem ct_by {p : Nat → Bool} {f : Nat → Nat} {m : Nat} : ∀ {n : Nat}, (∀ k, k < n → f k < m) → fb_sm (fun j => fb_ct (fun k => p k && f k == j) n) m = fb_ct p n
  | 0, _ => by
    have := fb_sm_const 0 m
    simpa [fb_ct] using this
  | n + 1, h => by
    have ih := ct_by (p := p) (f := f) (m := m) (n := n) (fun k hk => h k (by omega))
    have hf := h n (by omega)
    cases e : p n with
    | false =>
      rw [fb_ct_succ, e]
      simp only [Bool.false_eq_true, if_false, Nat.add_zero]
      rw [← ih]
      refine fb_sm_cong (fun j hj => ?_)
      rw [fb_ct_succ, e]
      simp
    | true =>
      rw [fb_ct_succ, e]
      simp only [if_true]
      rw [← ih]
      have hu := fb_sm_upd (fun j => fb_ct (fun k => p k && f k == j) n) (fb_ct (fun k => p k && f k == f n) n + 1) hf
      have hc : fb_sm (fun j => fb_ct (fun k => p k && f k == j) (n + 1)) m = fb_sm (fun j => if j = f n then fb_ct (fun k => p k && f k == f n) n + 1 else fb_ct (fun k => p k && f k == j) n) m := by
        refine fb_sm_cong (fun j hj => ?_)
        rw [fb_ct_succ, e]
        by_cases ej : j = f n
        · rw [if_pos ej, ej]
          simp
        · have : ¬ f n = j := fun z => ej z.symm
          rw [if_neg ej]
          simp [this]
      rw [hc]
      omega
theorem relB_let {w len : Nat} {xd : Nat → Int32} {md : Nat → Int32} (h : ∀ i, i < len → xd i = md i ∧ ∃ j : Nat, 1 ≤ j ∧ j < w ∧ (xd i = nI j ∨ xd i = -nI j)) : (∀ i, i < len → isLet w (xd i)) ∧ ∀ i, i < len → md i = xd i :=
  ⟨fun i hi => (h i hi).2, fun i hi => (h i hi).1.symm⟩
theorem op_colours {bw bl : Int32} {ba bn bt bd : Nat → Int32} {yn : Int32} {yc : Nat → Int32} {cn : Int32} {cc : Nat → Int32} {wm : Int32} {wv : Nat → Int32} {thr mn mm ms ml : Int32} {mc md mt mv : Nat → Int32} (h : RelT cn cc mn mt) (hw : RelW wm wv mm mv) (hb : RelB bw bl bd ms ml md) :
    pX10_colours bw bl ba bn bt bd yn yc cn cc wm wv (fun r _ _ _ _ _ => pX11_colours thr mn mm ms ml mc md mt mv (fun r' _ _ => r = r')) := by
  obtain ⟨N, T, h1, h8, rfl, rfl, hx, hm⟩ := h
  obtain ⟨m, hm2, hm7, rfl, rfl, hwv⟩ := hw
  obtain ⟨w, len, hw2, hw4, hlen, rfl, rfl, rfl, rfl, hbd⟩ := hb
  obtain ⟨hl, hdd⟩ := relB_let hbd
  refine s_isRack hx h8 (fun hk => y1' ?_) (fun hk => y0' (s_isRackM hm h8 (fun q => absurd q hk) (fun _ => y0 rfl)))
  have hT := tab_T hx
  refine s_makeContrary hx h8 (fun dc' hdc => ?_)
  refine s_tally hx h1 h8 hk.1 (fun a v ha hv => hdc a v ha (torn_onto hT hk.1 ha hv)) hw4 hlen (by omega) hm7 (fun j hj => (hwv j hj).2) hl (fun ah nw ta hta => ?_)
  have h4 := pw_le h8 hw4
  have hfin : fb_sm (fun j => fb_ct (fun k => okc T N w len bd k && smc T N len m wv bd k == j) (N ^ w)) m = fb_ct (okc T N w len bd) (N ^ w) := ct_by (fun k _ => smc_lt (by omega))
  refine lpW2_for m (fun i x1 x2 => x2 = nI i ∧ x1 = nI (fb_sm (fun j => fb_ct (fun k => okc T N w len bd k && smc T N len m wv bd k == j) (N ^ w)) i)) 0 (Nat.zero_le _) ⟨nI_0.symm, nI_0.symm⟩ ?_
  rintro i hi x1 x2 ⟨rfl, rfl⟩ R hR
  refine pk_le m i (fun hle => ?_) (fun hlt => ?_)
  · have e : i = m := by omega
    subst e
    refine s_isRackM hm h8 (fun _ => y1 ?_) (fun q => absurd hk q)
    refine s_colourings (g := okc T N w len bd) hm h1 h8 hk.1 hw4 hlen (by omega) hm7 (fun j hj => (hwv j hj).2) (fun j hj => (hwv j hj).1.symm) hl hdd (fun k e => Or.inl ⟨by decide, e⟩) (fun k e => e) (fun co' => ?_)
    rw [hfin]
  · refine ⟨vp_in_nI (by omega) (by decide), ?_⟩
    rw [nI_clamp (by omega), hta i hlt]
    refine hR hlt _ _ ⟨nI_1 i, ?_⟩
    rw [nI_add, fb_sm_succ]
theorem op_sums {bw bl : Int32} {ba bn bt bd : Nat → Int32} {yn : Int32} {yc : Nat → Int32} {cn : Int32} {cc : Nat → Int32} {wm : Int32} {wv : Nat → Int32} {thr mn mm ms ml : Int32} {mc md mt mv : Nat → Int32} {x1 : Int32} (h : RelT cn cc mn mt) (hw : RelW wm wv mm mv) (hb : RelB bw bl bd ms ml md) :
    pX10_sums bw bl ba bn bt bd yn yc cn cc wm wv x1 (fun r _ _ _ _ _ => pX11_sums thr mn mm ms ml mc md mt mv x1 (fun r' _ _ => r = r')) := by
  obtain ⟨N, T, h1, h8, rfl, rfl, hx, hm⟩ := h
  obtain ⟨m, hm2, hm7, rfl, rfl, hwv⟩ := hw
  obtain ⟨w, len, hw2, hw4, hlen, rfl, rfl, rfl, rfl, hbd⟩ := hb
  obtain ⟨hl, hdd⟩ := relB_let hbd
  have em : nI m - 1 = nI (m - 1) := pk_sub (a := m) (b := 1) (by omega)
  have inM : ∀ {K : Int32 → Prop}, (rg 0 (m - 1) x1 → K 1) → (¬ rg 0 (m - 1) x1 → K 0) → pX11_in (Int32.toInt64 x1) (0 : Int64) (Int32.toInt64 (nI m - (1 : Int32))) K := fun a b => s_inR 0 (m - 1) (by omega) (by decide) rfl (by rw [em]) a b
  have no : ¬ rg 0 (m - 1) x1 → pX11_sums thr (nI N) (nI m) (nI w) (nI len) mc md mt mv x1 (fun r' _ _ => (-1 : Int32) = r') := fun hn => inM (fun q => absurd q hn) (fun _ => y0 rfl)
  rw [rg_iff (by omega)] at no
  have tm : (nI m).toInt = (m : Int) := nI_toInt (by omega)
  refine ⟨fun q => no ?_, fun q => ⟨fun q2 => no ?_, fun q2 => ?_⟩⟩
  · rw [i_lt, Int32.toInt_zero] at q
    omega
  · rw [i_le, tm] at q2
    omega
  · have hg : rg 0 (m - 1) x1 := by
      rw [rg_iff (by omega)]
      rw [i_lt, Int32.toInt_zero] at q
      rw [i_le, tm] at q2
      omega
    refine s_isRack hx h8 (fun hk => y1' ?_) (fun hk => y0' (inM (fun _ => y1 (s_isRackM hm h8 (fun q => absurd q hk) (fun _ => y0 rfl))) (fun q => absurd hg q)))
    have hT := tab_T hx
    obtain ⟨s, -, hs, rfl⟩ := id hg
    refine s_makeContrary hx h8 (fun dc' hdc => ?_)
    refine s_tally hx h1 h8 hk.1 (fun a v ha hv => hdc a v ha (torn_onto hT hk.1 ha hv)) hw4 hlen (by omega) hm7 (fun j hj => (hwv j hj).2) hl (fun ah nw ta hta => ?_)
    refine ⟨vp_in_nI (by omega) (by decide), ?_⟩
    rw [nI_clamp (by omega), hta s (by omega)]
    refine inM (fun _ => y1 (s_isRackM hm h8 (fun _ => y1 ?_) (fun q => absurd hk q))) (fun q => absurd hg q)
    refine s_colourings (g := fun k => okc T N w len bd k && smc T N len m wv bd k == s) hm h1 h8 hk.1 hw4 hlen (by omega) hm7 (fun j hj => (hwv j hj).2) (fun j hj => (hwv j hj).1.symm) hl hdd (fun k e => Or.inr ⟨nI_pos (by omega), ?_⟩) (fun k e => by rw [e]; rfl) (fun co' => rfl)
    have hsm := smc_lt (T := T) (N := N) (len := len) (m := m) (v := wv) (wd := bd) (st := k) (by omega)
    rw [e, nI_eq (by omega) (by omega)]
    simp
