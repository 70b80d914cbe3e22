/-! The bench fills row by row, and leaves out what can't go on. -/
theorem lst_self {n : Nat} {T B : Nat → Nat → Nat} (hT : ∀ a b, a < n → b < n → T a b < n) (h : lstT n T B) (e : ∀ a b, a < n → b < n → T a b = B a b) : lstT n T T :=
  ⟨⟨_, iso_id n T⟩, fun σ S hi w => h.2 σ S hi (lt_congR e w)⟩
theorem ag_brk {n k a c : Nat} (ha : a < n) (hk : k / fac n ^ (n - (a + 1)) = c) (hn : n ≤ 8) (hb : brk (Tk n k) n = none) : agP n (PT n (a + 1) c) a := by
  intro x y hx hy hxy z hz
  have h := brk_none.mp hb x y z (by omega) (by omega) hz
  have e : ∀ r, r ≤ a → ∀ b, Tk n k r b = PT n (a + 1) c r b := fun r hr b => PT_Tk (by omega) (by omega) hk
  rw [e y hy z, e x hx y, e x hx z, e x hx, e _ hxy] at h
  exact h
theorem brk_ag {n k : Nat} (h1 : 1 ≤ n) (hn : n ≤ 8) (h : agP n (PT n n k) (n - 1)) : brk (Tk n k) n = none := by
  refine brk_none.mpr (fun x y z hx hy hz => ?_)
  have e : ∀ r, r < n → ∀ b, Tk n k r b = PT n n k r b := fun r hr b => PT_Tk (Nat.le_refl _) hr (by rw [Nat.sub_self, Nat.pow_zero, Nat.div_one])
  have hl := PT_lt (n := n) (a := n) (c := k) hn (r := x) hy
  rw [e y hy z, e x hx y, e x hx z, e x hx, e _ hl]
  exact h x y (by omega) (by omega) (by omega) z hz
/-- what a call that fills row a is to do -/
def FR (n d a : Nat) : Prop := ∀ (c : Nat) (rk : Nat → Nat → Int32) (sz' tc : Nat → Int32) (nn bn : Int32) (bb fr nm tg tw : Nat → Int32) (K : (Nat → Nat → Int32) → (Nat → Int32) → (Nat → Int32) → Int32 → Int32 → (Nat → Int32) → (Nat → Int32) → (Nat → Int32) → (Nat → Int32) → (Nat → Int32) → Prop),
  c < fac n ^ a → LSX n (c * fac n ^ (n - a)) rk sz' → rwOk tc n a (PT n a c) → (a = 0 ∨ agP n (PT n a c) (a - 1)) →
  (∀ rk2 sz2 tc2 nn2 bn2 bb2 fr2 nm2 tg2 tw2, LSX n ((c + 1) * fac n ^ (n - a)) rk2 sz2 → (∀ n', n' ≠ n → sz2 n' = sz' n' ∧ rk2 n' = rk n') → rwOk tc2 n a (PT n a c) → K rk2 sz2 tc2 nn2 bn2 bb2 fr2 nm2 tg2 tw2) →
  pX2_fillRow d rk sz' (nI n) tc nn bn bb fr nm tg tw (nI a) K
theorem s_fillRow {n : Nat} (h1 : 1 ≤ n) (h4 : n ≤ 4) : ∀ d a, a ≤ n → n - a < d → FR n d a := by
  intro d
  induction d with
  | zero => exact fun a _ h => absurd h (Nat.not_lt_zero _)
  | succ d ih =>
    intro a ha hd c rk sz' tc nn bn bb fr nm tg tw K hc hs hrw hag hK
    have fp := fac_pos n
    have fl' := fac_le n (by omega)
    refine pk_lt a n (fun hlt => ?_) (fun hge => ?_)
    · have eW : fac n ^ (n - a) = fac n * fac n ^ (n - (a + 1)) := by
        rw [show n - a = (n - (a + 1)) + 1 by omega, Nat.pow_succ, Nat.mul_comm]
      refine lpW11_for (fac n) (fun p x3 rk2 sz2 tc2 _ _ _ _ _ _ _ => x3 = nI p ∧ LSX n (c * fac n ^ (n - a) + p * fac n ^ (n - (a + 1))) rk2 sz2 ∧ (∀ n', n' ≠ n → sz2 n' = sz' n' ∧ rk2 n' = rk n') ∧ rwOk tc2 n a (PT n a c)) 0 (Nat.zero_le _) ⟨nI_0.symm, by rw [Nat.zero_mul, Nat.add_zero]; exact hs, fun _ _ => ⟨rfl, rfl⟩, hrw⟩ ?_
      rintro p hp x3 rk2 sz2 tc2 nn2 bn2 bb2 fr2 nm2 tg2 tw2 ⟨rfl, hs2, ho2, hrw2⟩ R hR
      unfold pX2_fillRow_29
      rw [show (nI n).toNatClampNeg = n from nI_clamp (by omega), fct_fac n (by omega)]
      refine ⟨vp_in_nI (by omega) (by decide), pk_le (fac n) p (fun hle => ?_) (fun hltp => ?_)⟩
      · have e : p = fac n := by omega
        subst e
        refine hK _ _ _ _ _ _ _ _ _ _ ?_ ho2 hrw2
        rw [Nat.add_mul, Nat.one_mul]
        rw [eW] at hs2 ⊢
        exact hs2
      · have hd8 : ∀ i, i < n → pdg n p i < 8 := fun i hi => by have := pdg_lt (show n ≤ 8 by omega) hltp hi; omega
        have est : c * fac n ^ (n - a) + p * fac n ^ (n - (a + 1)) = (c * fac n + p) * fac n ^ (n - (a + 1)) := by
          rw [eW, Nat.add_mul, Nat.mul_assoc]
        have enx : c * fac n ^ (n - a) + (p + 1) * fac n ^ (n - (a + 1)) = (c * fac n + p + 1) * fac n ^ (n - (a + 1)) := by
          rw [eW, Nat.add_mul p 1, Nat.add_mul (c * fac n + p) 1, Nat.add_mul, Nat.mul_assoc, Nat.add_assoc]
        refine s_numbered h1 (by omega) hltp (s_putRow (by omega) (by omega) (pck_lt31 (by omega) hd8) ?_)
        have hrw3 : rwOk (fb_put tc2 (fun j => nI (pck (pdg n p) n / 8 ^ j % 8)) (8 * a) n) n (a + 1) (PT n (a + 1) (c * fac n + p)) := by
          intro r b hr hb
          rcases Nat.lt_or_ge r a with q | q
          · rw [fb_put_out (by omega), PT_next q hltp]
            exact hrw2 r b q hb
          · have er : r = a := by omega
            subst er
            rw [fb_put_in (by omega) (by omega), PT_new hltp, show 8 * r + b - 8 * r = b by omega, pck_at hd8 hb]
        generalize fb_put tc2 (fun j => nI (pck (pdg n p) n / 8 ^ j % 8)) (8 * a) n = tc3 at hrw3
        have hcp : c * fac n + p < fac n ^ (a + 1) := by
          have : (c + 1) * fac n ≤ fac n ^ a * fac n := Nat.mul_le_mul_right _ hc
          rw [Nat.add_mul, Nat.one_mul] at this
          rw [Nat.pow_succ]
          omega
        have down : ∀ tcx, rwOk tcx n (a + 1) (PT n (a + 1) (c * fac n + p)) → rwOk tcx n a (PT n a c) := fun tcx hx r b hr hb => by
          rw [hx r b (by omega) hb, PT_next hr hltp]
        refine s_agrees hrw3 (by omega) hlt (fun r b hb => PT_lt (by omega) hb) (fun hag2 => y1 ?_) (fun hno => y0 ?_)
        · rw [nI_1]
          refine ih (a + 1) (by omega) (by omega) (c * fac n + p) rk2 sz2 tc3 nn2 bn2 bb2 fr2 nm2 tg2 tw2 _ hcp (by rw [← est]; exact hs2) hrw3 (Or.inr hag2) (fun rk4 sz4 tc4 nn4 bn4 bb4 fr4 nm4 tg4 tw4 hs4 ho4 hrw4 => ?_)
          refine hR hltp _ _ _ _ _ _ _ _ _ _ _ ⟨nI_1 p, by rw [enx]; exact hs4, fun n' hn' => ⟨by rw [(ho4 n' hn').1, (ho2 n' hn').1], by rw [(ho4 n' hn').2, (ho2 n' hn').2]⟩, down _ hrw4⟩
        · refine hR hltp _ _ _ _ _ _ _ _ _ _ _ ⟨nI_1 p, ?_, ho2, down _ hrw3⟩
          rw [enx]
          rw [est] at hs2
          refine LSX_skip (Nat.mul_le_mul_right _ (by omega)) (fun k k1 k2 => dB_f.mpr (fun hg => hno ?_)) hs2
          have hk : k / fac n ^ (n - (a + 1)) = c * fac n + p := by
            have hW : 0 < fac n ^ (n - (a + 1)) := Nat.pow_pos fp
            exact Nat.le_antisymm (Nat.le_of_lt_succ ((Nat.div_lt_iff_lt_mul hW).mpr k2)) ((Nat.le_div_iff_mul_le hW).mpr k1)
          exact ag_brk hlt hk (by omega) hg.1
    · have ea : a = n := by omega
      subst ea
      have hag' : agP a (PT a a c) (a - 1) := by
        rcases hag with q | q
        · omega
        · exact q
      have ht : tab tc a (Tk a c) := fun x y hx hy => by
        have e : Tk a c x y = PT a a c x y := PT_Tk (Nat.le_refl _) hx (by rw [Nat.sub_self, Nat.pow_zero, Nat.div_one])
        exact ⟨by rw [hrw x y hx hy, e], Tk_lt (by omega) x y hx hy⟩
      have hT := tab_T ht
      have hb := brk_ag h1 (by omega) hag'
      rw [Nat.sub_self, Nat.pow_zero, Nat.mul_one] at hs
      have fin : ∀ rk2 sz2 nn2 bn2 bb2 fr2 nm2 tg2 tw2, LSX a (c + 1) rk2 sz2 → (∀ n', n' ≠ a → sz2 n' = sz' n' ∧ rk2 n' = rk n') → K rk2 sz2 tc nn2 bn2 bb2 fr2 nm2 tg2 tw2 := fun rk2 sz2 nn2 bn2 bb2 fr2 nm2 tg2 tw2 hh ho => hK _ _ _ _ _ _ _ _ _ _ (by rw [Nat.sub_self, Nat.pow_zero, Nat.mul_one]; exact hh) ho hrw
      refine s_lessen ht (by omega) (fun B n2 bc2 fr2 nm2 tg2 tw2 hl hbc => ⟨fun e => y0' ?_, fun e => y1' ?_⟩)
      · have hg : gdB a c = true := dB_t.mpr ⟨hb, lst_self hT hl e⟩
        exact s_keepTrial h1 h4 hc hg ht hs (fun rk2 sz2 hs2 ho2 => fin _ _ _ _ _ _ _ _ _ hs2 ho2)
      · refine fin _ _ _ _ _ _ _ _ _ (LSX_skip (by omega) (fun k k1 k2 => dB_f.mpr (fun hg => e ?_)) hs) (fun _ _ => ⟨rfl, rfl⟩)
        have ek : k = c := by omega
        subst ek
        exact lstT_one hg.2 hl
/-- the list as the bench holds it: not found yet, or whole -/
def RLX (rk : Nat → Nat → Int32) (sz' : Nat → Int32) : Prop := ∀ n, 1 ≤ n → n ≤ 4 → sz' n = 0 ∨ LSX n (fac n ^ n) rk sz'
/-! which are asked for -/
noncomputable def gwB (n w k : Nat) : Bool := gdB n k && (w == 0 || qdB n (Tk n k))
noncomputable def kg (n j : Nat) : Nat := (findO (fun k => if gdB n k = true ∧ fb_ct (gdB n) k = j then some k else none) (fac n ^ n)).getD 0
theorem kg_ok {n j : Nat} (h : j < tot n) : kg n j < fac n ^ n ∧ gdB n (kg n j) = true ∧ fb_ct (gdB n) (kg n j) = j := by
  obtain ⟨r, hr, e1, e2⟩ := fb_ct_kth h
  unfold kg
  cases e : findO (fun k => if gdB n k = true ∧ fb_ct (gdB n) k = j then some k else none) (fac n ^ n) with
  | none =>
    have := findO_none.mp e r hr
    rw [if_pos ⟨e1, e2⟩] at this
    cases this
  | some q =>
    obtain ⟨i, hi, e3, -⟩ := findO_some e
    split at e3
    · cases e3
      rename_i w
      exact ⟨hi, w.1, w.2⟩
    · cases e3
/-- how many of the first j are asked for -/
noncomputable def wct (n w j : Nat) : Nat := fb_ct (fun i => w == 0 || qdB n (Tk n (kg n i))) j
theorem wct_ct {n w : Nat} : ∀ k, k ≤ fac n ^ n → wct n w (fb_ct (gdB n) k) = fb_ct (gwB n w) k
  | 0, _ => rfl
  | k + 1, hk => by
    have ih := wct_ct (n := n) (w := w) k (by omega)
    rw [fb_ct_succ, fb_ct_succ]
    cases e : gdB n k with
    | false =>
      have : gwB n w k = false := by unfold gwB; rw [e]; rfl
      rw [this]
      simpa using ih
    | true =>
      have hj : fb_ct (gdB n) k < tot n := by
        have h1 : fb_ct (gdB n) (k + 1) ≤ tot n := fb_ct_mono _ hk
        rw [fb_ct_succ, e] at h1
        simp at h1
        omega
      obtain ⟨q1, q2, q3⟩ := kg_ok hj
      have ek : kg n (fb_ct (gdB n) k) = k := fb_ct_kth_one q2 e q3
      have : gwB n w k = (w == 0 || qdB n (Tk n k)) := by unfold gwB; rw [e]; rfl
      rw [this]
      show wct n w (fb_ct (gdB n) k + 1) = _
      unfold wct
      rw [fb_ct_succ, ek]
      unfold wct at ih
      rw [ih]
noncomputable def wtot (n w : Nat) : Nat := fb_ct (gwB n w) (fac n ^ n)
theorem wct_tot (n w : Nat) : wct n w (tot n) = wtot n w := wct_ct (fac n ^ n) (Nat.le_refl _)
theorem s_sizeTail {n w : Nat} {rk : Nat → Nat → Int32} {sz' : Nat → Int32} {tn nn bn : Int32} {tc bb fr nm tg tw : Nat → Int32} {K : Int32 → (Nat → Nat → Int32) → (Nat → Int32) → Int32 → (Nat → Int32) → Int32 → Int32 → (Nat → Int32) → (Nat → Int32) → (Nat → Int32) → (Nat → Int32) → (Nat → Int32) → Prop} (h1 : 1 ≤ n) (h4 : n ≤ 4) (hw : w ≤ 1) (hs : LSX n (fac n ^ n) rk sz') (h : K (nI (wtot n w)) rk sz' tn tc nn bn bb fr nm tg tw) : pX2_sizeOf_23 K (nI n) (nI w) rk sz' tn tc nn bn bb fr nm tg tw := by
  have ht := tot_le h1 h4
  have hsz : sz' n = nI (tot n) := hs.1
  refine lpW2_for (tot n) (fun j x4 x5 => x5 = nI j ∧ x4 = nI (wct n w j)) 0 (Nat.zero_le _) ⟨nI_0.symm, nI_0.symm⟩ ?_
  rintro j hj x4 x5 ⟨rfl, rfl⟩ R hR
  unfold pX2_sizeOf_29
  rw [nI_clamp (by omega), hsz]
  refine ⟨vp_in_nI (by omega) (by decide), pk_le (tot n) j (fun hle => ?_) (fun hlt => ?_)⟩
  · have e : j = tot n := by omega
    rw [e, wct_tot]
    exact h
  · obtain ⟨k1, k2, k3⟩ := kg_ok hlt
    have ek := hs.2 _ k1 k2
    rw [k3] at ek
    have yes : (w == 0 || qdB n (Tk n (kg n j))) = true → R (nI (wct n w j) + 1) (nI j + 1) := fun e => hR hlt _ _ ⟨nI_1 j, by unfold wct; rw [fb_ct_succ, e]; exact nI_1 _⟩
    refine pk_eq w 0 (fun e => yes (by simp [e])) (fun e => ⟨vp_in_nI (by omega) (by decide), vp_in_nI (by omega) (by decide), ?_⟩)
    rw [nI_clamp (by omega), ek]
    refine s_isQuandle h4 (Tk_lt (by omega)) (bI_c _ (fun q => hR hlt _ _ ⟨nI_1 j, ?_⟩) (fun q => yes (by simp [q])))
    unfold wct
    rw [fb_ct_succ, q]
    simp [e]
theorem tot_pos0 {n : Nat} {rk : Nat → Nat → Int32} {sz' : Nat → Int32} (h : sz' n = 0) : LSX n (0 * fac n ^ (n - 0)) rk sz' := by
  rw [Nat.zero_mul]
  exact ⟨h, fun k hk => absurd hk (Nat.not_lt_zero _)⟩
theorem s_sizeOf {n w : Nat} {rk : Nat → Nat → Int32} {sz' : Nat → Int32} {tn nn bn : Int32} {tc bb fr nm tg tw : Nat → Int32} {K : Int32 → (Nat → Nat → Int32) → (Nat → Int32) → Int32 → (Nat → Int32) → Int32 → Int32 → (Nat → Int32) → (Nat → Int32) → (Nat → Int32) → (Nat → Int32) → (Nat → Int32) → Prop} (h1 : 1 ≤ n) (h4 : n ≤ 4) (hw : w ≤ 1) (hs : RLX rk sz')
    (h : ∀ rk2 sz2 tn2 tc2 nn2 bn2 bb2 fr2 nm2 tg2 tw2, RLX rk2 sz2 → LSX n (fac n ^ n) rk2 sz2 → K (nI (wtot n w)) rk2 sz2 tn2 tc2 nn2 bn2 bb2 fr2 nm2 tg2 tw2) : pX2_sizeOf rk sz' tn tc nn bn bb fr nm tg tw (nI n) (nI w) K := by
  unfold pX2_sizeOf
  rw [nI_clamp (by omega)]
  refine ⟨vp_in_nI (by omega) (by decide), fun hne => ?_, fun heq => ?_⟩
  · have hl := (hs n h1 h4).resolve_left hne
    exact s_sizeTail h1 h4 hw hl (h _ _ _ _ _ _ _ _ _ _ _ hs hl)
  · refine s_fillRow h1 h4 6 0 (Nat.zero_le _) (by omega) 0 rk sz' tc nn bn bb fr nm tg tw _ (by rw [Nat.pow_zero]; decide) (tot_pos0 heq) (fun r b hr => absurd hr (Nat.not_lt_zero _)) (Or.inl rfl) (fun rk2 sz2 tc2 nn2 bn2 bb2 fr2 nm2 tg2 tw2 hs2 ho2 _ => ?_)
    rw [Nat.zero_add, Nat.one_mul, Nat.sub_zero] at hs2
    refine s_sizeTail h1 h4 hw hs2 (h _ _ _ _ _ _ _ _ _ _ _ (fun n' n1 n4 => ?_) hs2)
    by_cases e : n' = n
    · rw [e]
      exact Or.inr hs2
    · obtain ⟨o1, o2⟩ := ho2 n' e
      rcases hs n' n1 n4 with q | q
      · exact Or.inl (by rw [o1, q])
      · exact Or.inr ⟨by rw [o1]; exact q.1, fun k hk hg => by rw [o2]; exact q.2 k hk hg⟩
theorem s_unpackCells {n : Nat} {T : Nat → Nat → Nat} {dn : Int32} {dc : Nat → Int32} {K : Int32 → (Nat → Int32) → Prop} (h4 : n ≤ 4) (hT : ∀ a b, a < n → b < n → T a b < n) (h : ∀ dc', tab dc' n T → K (nI n) dc') : pX2_unpackCells dn dc (nI n) (nI (pkT n T)) K := by
  refine lpW2_for n (fun i x f => x = nI i ∧ ∀ a b, a < i → b < n → f (8 * a + b) = nI (T a b)) 0 (Nat.zero_le _) ⟨nI_0.symm, fun a b ha => absurd ha (Nat.not_lt_zero _)⟩ ?_
  rintro i hi x f ⟨rfl, hI⟩ R hR
  refine pk_le n i (fun hle => ?_) (fun hlt => ?_)
  · have e : i = n := by omega
    subst e
    exact h f (fun a b ha hb => ⟨hI a b ha hb, hT a b ha hb⟩)
  · refine lpW2_for n (fun j x f => x = nI j ∧ (∀ a b, a < i → b < n → f (8 * a + b) = nI (T a b)) ∧ ∀ b, b < j → f (8 * i + b) = nI (T i b)) 0 (Nat.zero_le _) ⟨nI_0.symm, hI, fun b hb => absurd hb (Nat.not_lt_zero _)⟩ ?_
    rintro j hj x f ⟨rfl, h1, h2⟩ R2 hR2
    refine pk_le n j (fun hle2 => ?_) (fun hlt2 => ?_)
    · have e : j = n := by omega
      subst e
      refine hR hlt _ _ ⟨nI_1 i, fun a b ha hb => ?_⟩
      rcases Nat.lt_or_ge a i with q | q
      · exact h1 a b q hb
      · rw [show a = i by omega]
        exact h2 b hb
    · refine s_cell h4 hT hlt hlt2 (e_put (by omega) (by omega) (hR2 hlt2 _ _ ⟨nI_1 j, fun a b ha hb => ?_, fun b hb => ?_⟩))
      · rw [pk_un (by omega)]
        exact h1 a b ha hb
      · rcases Nat.lt_or_ge b j with q | q
        · rw [pk_un (by omega)]
          exact h2 b q
        · rw [show b = j by omega, pk_us]
theorem s_unpack {n w k i : Nat} {rk : Nat → Nat → Int32} {sz' : Nat → Int32} {dn : Int32} {dc : Nat → Int32} {K : Int32 → (Nat → Int32) → Prop} (h1 : 1 ≤ n) (h4 : n ≤ 4) (hw : w ≤ 1) (hs : LSX n (fac n ^ n) rk sz') (hk : k < fac n ^ n) (hg : gwB n w k = true) (hi : fb_ct (gwB n w) k = i) (hi2 : i < 2 ^ 30) (h : ∀ dc', tab dc' n (Tk n k) → K (nI n) dc') : pX2_unpack rk sz' dn dc (nI n) (nI w) (nI i) K := by
  have ht := tot_le h1 h4
  have hsz : sz' n = nI (tot n) := hs.1
  have hgd : gdB n k = true := by
    unfold gwB at hg
    rw [Bool.and_eq_true] at hg
    exact hg.1
  have hJ : fb_ct (gdB n) k < tot n := by
    have h1 : fb_ct (gdB n) (k + 1) ≤ tot n := fb_ct_mono _ hk
    rw [fb_ct_succ, hgd] at h1
    simp at h1
    omega
  have hwk := wct_ct (n := n) (w := w) k (by omega)
  rw [hi] at hwk
  have ekk : kg n (fb_ct (gdB n) k) = k := by
    obtain ⟨q1, q2, q3⟩ := kg_ok hJ
    exact fb_ct_kth_one q2 hgd q3
  have hsel : (w == 0 || qdB n (Tk n k)) = true := by
    unfold gwB at hg
    rw [Bool.and_eq_true] at hg
    exact hg.2
  have hmono : ∀ j, wct n w j ≤ wct n w (j + 1) := fun j => by unfold wct; rw [fb_ct_succ]; omega
  refine lpW4_for (tot n) (fun j x5 x6 a b => x6 = nI j ∧ x5 = nI i - nI (wct n w j) ∧ (fb_ct (gdB n) k < j → a = nI n ∧ tab b n (Tk n k))) 0 (Nat.zero_le _) ⟨nI_0.symm, ?_, fun q => absurd q (Nat.not_lt_zero _)⟩ ?_
  · show nI i = nI i - nI 0
    rw [pk_sub (Nat.zero_le _), Nat.sub_zero]
  · rintro j hj x5 x6 a b ⟨rfl, rfl, hab⟩ R hR
    unfold pX2_unpack_6
    rw [nI_clamp (by omega), hsz]
    refine ⟨vp_in_nI (by omega) (by decide), pk_le (tot n) j (fun hle => ?_) (fun hlt => ?_)⟩
    · obtain ⟨e1, e2⟩ := hab (by omega)
      rw [e1]
      exact h b e2
    · obtain ⟨k1, k2, k3⟩ := kg_ok hlt
      have ek := hs.2 _ k1 k2
      rw [k3] at ek
      have hwl : wct n w j ≤ j := fb_ct_le _ _
      have take : (w == 0 || qdB n (Tk n (kg n j))) = true → pX2_unpack_37 rk sz' R K (nI n) (nI w) (nI i - nI (wct n w j)) (nI j) a b := fun es => by
        have ew : wct n w (j + 1) = wct n w j + 1 := by
          unfold wct
          rw [fb_ct_succ, es]
          rfl
        have ex : nI i - nI (wct n w j) + (-1) = nI i - nI (wct n w (j + 1)) := by
          rw [ew, ← nI_add (wct n w j) 1, show (nI 1) = (1 : Int32) from rfl, Int32.sub_eq_add_neg, Int32.sub_eq_add_neg, Int32.neg_add, Int32.add_assoc, Int32.sub_eq_add_neg]
        by_cases q : wct n w j = i
        · have ej : j = fb_ct (gdB n) k := by
            refine fb_ct_kth_one (p := fun i => w == 0 || qdB n (Tk n (kg n i))) es (by rw [ekk]; exact hsel) ?_
            show wct n w j = wct n w (fb_ct (gdB n) k)
            rw [q, hwk]
          refine ⟨fun z => absurd (by rw [q, pk_sub (Nat.le_refl _), Nat.sub_self]; rfl) z, fun _ => ⟨vp_in_nI (by omega) (by decide), vp_in_nI (by omega) (by decide), ?_⟩⟩
          rw [nI_clamp (by omega), nI_clamp (by omega), ek, ej, ekk]
          refine s_unpackCells h4 (Tk_lt (by omega)) (fun dc' hdc => ?_)
          rw [ej] at ex hlt
          exact hR (by rw [ej]; exact hlt) _ _ _ _ ⟨by rw [ej]; exact nI_1 _, by rw [ej]; exact ex, fun _ => ⟨rfl, hdc⟩⟩
        · refine ⟨fun _ => hR hlt _ _ _ _ ⟨nI_1 j, ex, fun z => ?_⟩, fun z => ?_⟩
          · rcases Nat.lt_or_ge (fb_ct (gdB n) k) j with c | c
            · exact hab c
            · exfalso
              have ej : j = fb_ct (gdB n) k := by omega
              exact q (by rw [ej, hwk])
          · exfalso
            have hT := pk_sub_toInt (a := i) (b := wct n w j) hi2 (by omega)
            rw [z, Int32.toInt_zero] at hT
            omega
      refine pk_eq w 0 (fun e => take (by simp [e])) (fun e => ⟨vp_in_nI (by omega) (by decide), vp_in_nI (by omega) (by decide), ?_⟩)
      rw [nI_clamp (by omega), ek]
      refine s_isQuandle h4 (Tk_lt (by omega)) (bI_c _ (fun q => hR hlt _ _ _ _ ⟨nI_1 j, ?_, fun z => ?_⟩) (fun q => take (by simp [q])))
      · have ew : wct n w (j + 1) = wct n w j := by
          unfold wct
          rw [fb_ct_succ, q]
          simp [e]
        rw [ew]
      · rcases Nat.lt_or_ge (fb_ct (gdB n) k) j with c | c
        · exact hab c
        · exfalso
          have ej : j = fb_ct (gdB n) k := by omega
          rw [ej, ekk] at q
          rw [q] at hsel
          simp [e] at hsel
