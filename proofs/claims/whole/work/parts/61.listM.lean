/-! The model's list; listed and pick. -/
def LSM (n w K : Nat) (many : Int32) (li : Nat → Int32) : Prop := many = nI (fb_ct (gwB n w) K) ∧ ∀ k, k < K → gwB n w k = true → tab (fun j => li (64 * fb_ct (gwB n w) k + j)) n (Tk n k)
theorem LSM_skip {n w K0 K1 : Nat} {many : Int32} {li : Nat → Int32} (h : K0 ≤ K1) (hn : ∀ k, K0 ≤ k → k < K1 → gwB n w k = false) (hs : LSM n w K0 many li) : LSM n w K1 many li := by
  refine ⟨by rw [hs.1, ct_skip h hn], fun k hk hg => ?_⟩
  rcases Nat.lt_or_ge k K0 with q | q
  · exact hs.2 k q hg
  · rw [hn k q hk] at hg
    cases hg
theorem gw_gd {n w k : Nat} (h : gwB n w k = true) : gdB n k = true := by
  unfold gwB at h
  rw [Bool.and_eq_true] at h
  exact h.1
theorem gw_le {n w K : Nat} (h1 : 1 ≤ n) (h4 : n ≤ 4) (hK : K ≤ fac n ^ n) : fb_ct (gwB n w) K ≤ 19 :=
  Nat.le_trans (fb_ct_sub (fun k _ h => gw_gd h)) (Nat.le_trans (fb_ct_mono (gdB n) hK) (tot_le h1 h4))
def RO (n w d a : Nat) : Prop := ∀ (c : Nat) (many : Int32) (bc mf mg li md tb : Nat → Int32) (K : Int32 → (Nat → Int32) → (Nat → Int32) → (Nat → Int32) → (Nat → Int32) → (Nat → Int32) → (Nat → Int32) → Prop),
  c < fac n ^ a → LSM n w (c * fac n ^ (n - a)) many li → rwOk tb n a (PT n a c) → (w ≠ 0 → ∀ r, r < a → PT n a c r r = r) →
  (∀ many2 bc2 mf2 mg2 li2 md2 tb2, LSM n w ((c + 1) * fac n ^ (n - a)) many2 li2 → rwOk tb2 n a (PT n a c) → K many2 bc2 mf2 mg2 li2 md2 tb2) →
  pX11_rowsOf d (nI n) many bc mf mg li md tb (nI a) (nI w) K
theorem s_rowsOf {n w : Nat} (h1 : 1 ≤ n) (h4 : n ≤ 4) (hw : w ≤ 1) : ∀ d a, a ≤ n → n - a < d → RO n w d a := by
  intro d
  induction d with
  | zero => exact fun a _ h => absurd h (Nat.not_lt_zero _)
  | succ d ih =>
    intro a ha hd c many bc mf mg li md tb K hc hs hrw hq hK
    have fp := fac_pos n
    have fl' := fac_le n (by omega)
    refine pk_ne a n (by omega) (by omega) (fun ea => ?_) (fun hne => ?_)
    · subst ea
      have ePT : ∀ r, r < a → ∀ b, Tk a c r b = PT a a c r b := fun r hr b => PT_Tk (Nat.le_refl _) hr (by rw [Nat.sub_self, Nat.pow_zero, Nat.div_one])
      have ht : tab tb a (Tk a c) := fun x y hx hy => ⟨by rw [hrw x y hx hy, ePT x hx y], Tk_lt (by omega) x y hx hy⟩
      have hT := tab_T ht
      rw [Nat.sub_self, Nat.pow_zero, Nat.mul_one] at hs
      have hqd : (w == 0 || qdB a (Tk a c)) = true := by
        by_cases e : w = 0
        · simp [e]
        · have : qdB a (Tk a c) = true := al_yes (fun r hr => by rw [ePT r hr r, hq e r hr]; simp)
          rw [this, Bool.or_true]
      have egw : gwB a w c = gdB a c := by
        unfold gwB
        rw [hqd, Bool.and_true]
      have fin : ∀ many2 bc2 mf2 mg2 li2 md2, LSM a w (c + 1) many2 li2 → K many2 bc2 mf2 mg2 li2 md2 tb := fun many2 bc2 mf2 mg2 li2 md2 hh => hK _ _ _ _ _ _ _ (by rw [Nat.sub_self, Nat.pow_zero, Nat.mul_one]; exact hh) hrw
      have skip : gdB a c = false → ∀ bc2 mf2 mg2 md2, K many bc2 mf2 mg2 li md2 tb := fun hg bc2 mf2 mg2 md2 => fin _ _ _ _ _ _ (LSM_skip (by omega) (fun k k1 k2 => by rw [show k = c by omega, egw, hg]) hs)
      refine s_unruly ht (by omega) ?_
      cases eb : brk (Tk a c) a with
      | some r =>
        obtain ⟨x, y, z, hx, hy, hz, rfl⟩ := brk_of eb
        refine ⟨fun _ => skip (dB_f.mpr (fun q => by rw [q.1] at eb; cases eb)) _ _ _ _, fun q => absurd (nI_pos' (by omega)) q⟩
      | none =>
        refine ⟨fun q => absurd q (by decide), fun _ => s_leastOf ht h1 (by omega) (fun B bc2 mf2 md2 hl hb => s_isBestM ht (by omega) hb (fun e => y1 ?_) (fun e => y0 (skip (dB_f.mpr (fun q => e (lstT_one q.2 hl))) _ _ _ _)))⟩
        have hg : gdB a c = true := dB_t.mpr ⟨eb, lst_self hT hl e⟩
        have hgw : gwB a w c = true := by rw [egw, hg]
        have hc1 : fb_ct (gwB a w) (c + 1) = fb_ct (gwB a w) c + 1 := by rw [fb_ct_succ, hgw]; rfl
        have h19 := gw_le (w := w) (K := c + 1) h1 h4 hc
        obtain ⟨hs1, hs2⟩ := hs
        subst hs1
        refine lpW2_for 64 (fun i x3 g => x3 = nI i ∧ g = fb_put li tb (64 * fb_ct (gwB a w) c) i) 0 (Nat.zero_le _) ⟨nI_0.symm, (fb_put_0 _ _ _).symm⟩ ?_
        rintro i hi x3 g ⟨rfl, rfl⟩ R hR
        refine pk_le 64 i (fun hle => ?_) (fun hlt => ?_)
        · have ei : i = 64 := by omega
          subst ei
          refine fin _ _ _ _ _ _ ⟨by rw [hc1]; exact nI_1 _, fun k hk hgk => ?_⟩
          rcases Nat.lt_or_ge k c with q | q
          · have hne : fb_ct (gwB a w) k ≠ fb_ct (gwB a w) c := fun z => by
              have := fb_ct_kth_one hgk hgw z
              omega
            intro x y hx hy
            show fb_put li tb (64 * fb_ct (gwB a w) c) 64 (64 * fb_ct (gwB a w) k + (8 * x + y)) = _ ∧ _
            rw [fb_put_out (by omega)]
            exact hs2 k q hgk x y hx hy
          · have ek : k = c := by omega
            subst ek
            intro x y hx hy
            show fb_put li tb (64 * fb_ct (gwB a w) k) 64 (64 * fb_ct (gwB a w) k + (8 * x + y)) = _ ∧ _
            rw [fb_put_in (by omega) (by omega), show 64 * fb_ct (gwB a w) k + (8 * x + y) - 64 * fb_ct (gwB a w) k = 8 * x + y by omega]
            exact ht x y hx hy
        · rw [ix64, nI_clamp (by omega), nI_clamp (by omega)]
          refine ⟨vp_in_nI (by omega) (by decide), vp_in_nI (by omega) (by decide), hR hlt _ _ ⟨nI_1 i, ?_⟩⟩
          exact fb_put_succ li tb (64 * fb_ct (gwB a w) c) i
    · have hlt : a < n := by omega
      have eW : fac n ^ (n - a) = fac n * fac n ^ (n - (a + 1)) := by
        rw [show n - a = (n - (a + 1)) + 1 by omega, Nat.pow_succ, Nat.mul_comm]
      refine lpW8_for (fac n) (fun p x3 many2 _ _ _ li2 _ tb2 => x3 = nI p ∧ LSM n w (c * fac n ^ (n - a) + p * fac n ^ (n - (a + 1))) many2 li2 ∧ rwOk tb2 n a (PT n a c)) 0 (Nat.zero_le _) ⟨nI_0.symm, by rw [Nat.zero_mul, Nat.add_zero]; exact hs, hrw⟩ ?_
      rintro p hp x3 many2 bc2 mf2 mg2 li2 md2 tb2 ⟨rfl, hs2, hrw2⟩ R hR
      refine s_factorial (by omega) ?_ 10 (by omega)
      refine pk_le (fac n) p (fun hle => ?_) (fun hltp => ?_)
      · have e : p = fac n := by omega
        subst e
        refine hK _ _ _ _ _ _ _ ?_ hrw2
        rw [Nat.add_mul, Nat.one_mul]
        rw [eW] at hs2 ⊢
        exact hs2
      · have hpm := pdg_pm (show n ≤ 8 by omega) hltp
        have est : c * fac n ^ (n - a) + p * fac n ^ (n - (a + 1)) = (c * fac n + p) * fac n ^ (n - (a + 1)) := by
          rw [eW, Nat.add_mul, Nat.mul_assoc]
        have enx : c * fac n ^ (n - a) + (p + 1) * fac n ^ (n - (a + 1)) = (c * fac n + p + 1) * fac n ^ (n - (a + 1)) := by
          rw [eW, Nat.add_mul p 1, Nat.add_mul (c * fac n + p) 1, Nat.add_mul, Nat.mul_assoc, Nat.add_assoc]
        have hcp : c * fac n + p < fac n ^ (a + 1) := by
          have : (c + 1) * fac n ≤ fac n ^ a * fac n := Nat.mul_le_mul_right _ hc
          rw [Nat.add_mul, Nat.one_mul] at this
          rw [Nat.pow_succ]
          omega
        refine s_permutation (by omega) (by decide) h1 (by omega) hltp ?_
        have lg : lbl (fa_fill (fun i => nI (pdg n p i)) mg2 n) n (pdg n p) := fun i hi => fa_fill_in hi
        generalize fa_fill (fun i => nI (pdg n p i)) mg2 n = g1 at lg
        have go : (w ≠ 0 → pdg n p a = a) → pX11_rowsOf_110 (nI n) (pX11_rowsOf d) R K (nI a) (nI w) (nI p) many2 bc2 mf2 g1 li2 md2 tb2 := by
          intro hwa
          refine lpW2_for n (fun i x4 t => x4 = nI i ∧ t = fb_put tb2 (fun j => nI (pdg n p j)) (8 * a) i) 0 (Nat.zero_le _) ⟨nI_0.symm, (fb_put_0 _ _ _).symm⟩ ?_
          rintro i hi x4 t ⟨rfl, rfl⟩ R2 hR2
          refine pk_le n i (fun hle => ?_) (fun hlti => ?_)
          · have ei : i = n := by omega
            subst ei
            have hrw3 : rwOk (fb_put tb2 (fun j => nI (pdg i p j)) (8 * a) i) i (a + 1) (PT i (a + 1) (c * fac i + p)) := by
              intro r b hr hb
              rcases Nat.lt_or_ge r a with q | q
              · rw [fb_put_out (by omega), PT_next q hltp]
                exact hrw2 r b q hb
              · have er : r = a := by omega
                subst er
                rw [fb_put_in (by omega) (by omega), PT_new hltp, show 8 * r + b - 8 * r = b by omega]
            rw [nI_1]
            refine ih (a + 1) (by omega) (by omega) (c * fac i + p) many2 bc2 mf2 g1 li2 md2 _ _ hcp (by rw [← est]; exact hs2) hrw3 (fun hw0 r hr => ?_) (fun many4 bc4 mf4 mg4 li4 md4 tb4 hs4 hrw4 => ?_)
            · rcases Nat.lt_or_ge r a with q | q
              · rw [PT_next q hltp]
                exact hq hw0 r q
              · rw [show r = a by omega, PT_new hltp]
                exact hwa hw0
            · refine hR hltp _ _ _ _ _ _ _ _ ⟨nI_1 p, by rw [enx]; exact hs4, fun r b hr hb => ?_⟩
              rw [hrw4 r b (by omega) hb, PT_next hr hltp]
          · rw [ix8', nI_clamp (by omega), nI_clamp (by omega), lg i hlti]
            refine ⟨vp_in_nI (by omega) (by decide), vp_in_nI (by omega) (by decide), hR2 hlti _ _ ⟨nI_1 i, ?_⟩⟩
            exact fb_put_succ tb2 (fun j => nI (pdg n p j)) (8 * a) i
        have ba := hpm.1 a hlt
        refine pk_eq w 0 (fun ew => go (fun z => absurd ew z)) (fun ew => ⟨vp_in_nI (by omega) (by decide), ?_⟩)
        rw [nI_clamp (by omega), lg a hlt]
        refine pk_ne (pdg n p a) a (by omega) (by omega) (fun e => go (fun _ => e)) (fun e => ?_)
        refine hR hltp _ _ _ _ _ _ _ _ ⟨nI_1 p, ?_, hrw2⟩
        rw [enx]
        rw [est] at hs2
        refine LSM_skip (Nat.mul_le_mul_right _ (by omega)) (fun k k1 k2 => ?_) hs2
        have hk : k / fac n ^ (n - (a + 1)) = c * fac n + p := by
          have hW : 0 < fac n ^ (n - (a + 1)) := Nat.pow_pos fp
          exact Nat.le_antisymm (Nat.le_of_lt_succ ((Nat.div_lt_iff_lt_mul hW).mpr k2)) ((Nat.le_div_iff_mul_le hW).mpr k1)
        have eT : Tk n k a a = pdg n p a := by rw [PT_Tk (show a + 1 ≤ n by omega) (Nat.lt_succ_self a) hk, PT_new hltp]
        have hqf : qdB n (Tk n k) = false := al_no (p := fun a => Tk n k a a == a) (i := a) (by rw [eT]; simp [e]) hlt
        unfold gwB
        rw [hqf]
        simp [ew]
def RLM (lN lW many : Int32) (li : Nat → Int32) : Prop := lN = 0 ∨ ∃ n w : Nat, 1 ≤ n ∧ n ≤ 4 ∧ w ≤ 1 ∧ lN = nI n ∧ lW = nI w ∧ LSM n w (fac n ^ n) many li
theorem s_lists {n w : Nat} {mn many lN lW : Int32} {bc mf mg li md st mt : Nat → Int32} {K : Int32 → Int32 → Int32 → Int32 → (Nat → Int32) → (Nat → Int32) → (Nat → Int32) → (Nat → Int32) → (Nat → Int32) → (Nat → Int32) → (Nat → Int32) → Prop} (h1 : 1 ≤ n) (h4 : n ≤ 4) (hw : w ≤ 1) (hl : RLM lN lW many li)
    (h : ∀ many2 lN2 lW2 bc2 mf2 mg2 li2 md2 st2 mt2, RLM lN2 lW2 many2 li2 → LSM n w (fac n ^ n) many2 li2 → (∀ j, j < 64 → mt2 j = mt j) → K mn many2 lN2 lW2 bc2 mf2 mg2 li2 md2 st2 mt2) : pX11_lists mn many lN lW bc mf mg li md st mt (nI n) (nI w) K := by
  have go : pX11_lists_17 K (nI n) (nI w) mn many lN lW bc mf mg li md st mt := by
    refine lpW2_for 64 (fun i x4 s => x4 = nI i ∧ s = fa_fill mt st i) 0 (Nat.zero_le _) ⟨nI_0.symm, (fa_fill_0 _ _).symm⟩ ?_
    rintro i hi x4 s ⟨rfl, rfl⟩ R hR
    refine pk_le 64 i (fun hle => ?_) (fun hlt => ?_)
    · have ei : i = 64 := by omega
      subst ei
      refine s_rowsOf h1 h4 hw 6 0 (Nat.zero_le _) (by omega) 0 0 bc mf mg li md mt _ (by rw [Nat.pow_zero]; decide) ⟨by rw [Nat.zero_mul]; rfl, fun k hk => by rw [Nat.zero_mul] at hk; exact absurd hk (Nat.not_lt_zero _)⟩ (fun r b hr => absurd hr (Nat.not_lt_zero _)) (fun _ r hr => absurd hr (Nat.not_lt_zero _)) (fun many2 bc2 mf2 mg2 li2 md2 tb2 hs2 _ => ?_)
      rw [Nat.zero_add, Nat.one_mul, Nat.sub_zero] at hs2
      refine lpW2_for 64 (fun i x4 t => x4 = nI i ∧ t = fa_fill (fa_fill mt st 64) tb2 i) 0 (Nat.zero_le _) ⟨nI_0.symm, (fa_fill_0 _ _).symm⟩ ?_
      rintro i hi x4 t ⟨rfl, rfl⟩ R2 hR2
      refine pk_le 64 i (fun hle2 => ?_) (fun hlt2 => ?_)
      · have ei : i = 64 := by omega
        subst ei
        exact h _ _ _ _ _ _ _ _ _ _ (Or.inr ⟨n, w, h1, h4, hw, rfl, rfl, hs2⟩) hs2 (fun j hj => by rw [fa_fill_in hj, fa_fill_in hj])
      · refine ⟨vp_in_nI (by omega) (by decide), vp_in_nI (by omega) (by decide), hR2 hlt2 _ _ ⟨nI_1 i, ?_⟩⟩
        rw [nI_clamp (by omega)]
        exact fa_fill_succ (fa_fill mt st 64) tb2 i
    · refine ⟨vp_in_nI (by omega) (by decide), vp_in_nI (by omega) (by decide), hR hlt _ _ ⟨nI_1 i, ?_⟩⟩
      rw [nI_clamp (by omega)]
      exact fa_fill_succ mt st i
  refine ⟨fun _ => go, fun e1 => ⟨fun _ => go, fun e2 => ?_⟩⟩
  rcases id hl with q | ⟨n', w', n1, n4, w1, q1, q2, q3⟩
  · rw [q] at e1
    exact absurd e1 (nI_ne0 (by omega) (by omega))
  · have en : n' = n := nI_inj (by omega) (by omega) (by rw [← q1, e1])
    have ew : w' = w := nI_inj (by omega) (by omega) (by rw [← q2, e2])
    subst en ew
    exact h _ _ _ _ _ _ _ _ _ _ hl q3 (fun _ _ => rfl)
theorem s_isListX {x0 x1 : Int32} {K : Int32 → Prop} (h1 : ∀ n w, 1 ≤ n → n ≤ 4 → w ≤ 1 → x0 = nI n → x1 = nI w → K 1) (h0 : ¬ (rg 1 4 x0 ∧ rg 0 1 x1) → K 0) : pX10_isList x0 x1 K := by
  have no : ¬ (rg 1 4 x0 ∧ rg 0 1 x1) → pX10_isList_23 K := fun q => z0 (h0 q)
  rw [rg_iff (by decide), rg_iff (by decide)] at no
  refine ⟨fun q => no ?_, fun q => ⟨fun q2 => no ?_, fun q2 => ?_⟩⟩
  · rw [i_lt, show (1 : Int32).toInt = 1 from rfl] at q
    omega
  · rw [i_lt, show (4 : Int32).toInt = 4 from rfl] at q2
    omega
  · rw [i_lt, show (1 : Int32).toInt = 1 from rfl] at q
    rw [i_lt, show (4 : Int32).toInt = 4 from rfl] at q2
    obtain ⟨n, n1, n4, e⟩ := (rg_iff (lo := 1) (hi := 4) (by decide) x0).mpr (by omega)
    refine ⟨fun q3 => z1 (h1 n 0 n1 n4 (by decide) e q3), fun q3 => ⟨fun q4 => no ?_, fun q4 => z1 (h1 n 1 n1 n4 (by decide) e q4)⟩⟩
    rintro ⟨-, w⟩
    have w' := (rg_iff (lo := 0) (hi := 1) (by decide) x1).mpr w
    obtain ⟨v, -, v1, ev⟩ := w'
    have : v = 0 ∨ v = 1 := by omega
    rcases this with rfl | rfl
    · exact q3 ev
    · exact q4 ev
theorem s_isListM {x0 x1 : Int32} {K : Int32 → Prop} (h1 : rg 1 4 x0 ∧ rg 0 1 x1 → K 1) (h0 : ¬ (rg 1 4 x0 ∧ rg 0 1 x1) → K 0) : pX11_isList x0 x1 K :=
  s_inR 1 4 (by decide) (by decide) rfl rfl (fun a => y1 (s_inR 0 1 (by decide) (by decide) rfl rfl (fun b => y1 (z1 (h1 ⟨a, b⟩))) (fun b => y0 (z0 (h0 (fun q => b q.2)))))) (fun a => y0 (z0 (h0 (fun q => a q.1))))
def RelL (rk : Nat → Nat → Int32) (sz' : Nat → Int32) (lN lW many : Int32) (li : Nat → Int32) : Prop := RLX rk sz' ∧ RLM lN lW many li
theorem relT_same {xn : Int32} {xc : Nat → Int32} {mn : Int32} {mt mt2 : Nat → Int32} (h : RelT xn xc mn mt) (e : ∀ j, j < 64 → mt2 j = mt j) : RelT xn xc mn mt2 := by
  obtain ⟨N, T, h1, h8, e1, e2, hx, hm⟩ := h
  exact ⟨N, T, h1, h8, e1, e2, hx, fun a b ha hb => by rw [e _ (by omega)]; exact hm a b ha hb⟩
theorem op_listed {rk : Nat → Nat → Int32} {sz' : Nat → Int32} {tn nn bn : Int32} {tc bb fr nm tg tw : Nat → Int32} {cn : Int32} {cc : Nat → Int32} {thr mn many lN lW : Int32} {bc mf mg li md st mt : Nat → Int32} {x1 x2 : Int32} (h : RelT cn cc mn mt) (hl : RelL rk sz' lN lW many li) :
    pX10_listed rk sz' tn tc nn bn bb fr nm tg tw x1 x2 (fun r a b _ _ _ _ _ _ _ _ _ => pX11_listed thr mn many lN lW bc mf mg li md st mt x1 x2 (fun r' _ mn' a' b' c' _ _ _ d' _ _ mt' => r = r' ∧ RelT cn cc mn' mt' ∧ RelL a b b' c' a' d')) := by
  refine s_isListX (fun n w n1 n4 w1 e1 e2 => y1' ?_) (fun hn => y0' (s_isListM (fun q => absurd q hn) (fun _ => y0' ⟨rfl, h, hl⟩)))
  subst e1 e2
  have go : pX10_listed_25 (fun r a b _ _ _ _ _ _ _ _ _ => pX11_listed thr mn many lN lW bc mf mg li md st mt (nI n) (nI w) (fun r' _ mn' a' b' c' _ _ _ d' _ _ mt' => r = r' ∧ RelT cn cc mn' mt' ∧ RelL a b b' c' a' d')) (nI n) (nI w) rk sz' tn tc nn bn bb fr nm tg tw := by
    refine s_sizeOf n1 n4 w1 hl.1 (fun rk2 sz2 tn2 tc2 nn2 bn2 bb2 fr2 nm2 tg2 tw2 hx2 _ => ?_)
    refine s_isListM (fun _ => y1' ?_) (fun q => absurd ⟨⟨n, n1, n4, rfl⟩, ⟨w, Nat.zero_le _, w1, rfl⟩⟩ q)
    refine s_lists n1 n4 w1 hl.2 (fun many2 lN2 lW2 bc2 mf2 mg2 li2 md2 st2 mt2 hm2 hs2 et => ⟨hs2.1.symm, relT_same h et, hx2, hm2⟩)
  refine pk_ne w 1 (by omega) (by omega) (fun e => ?_) (fun e => ?_)
  · subst e
    exact go
  · have e0 : w = 0 := by omega
    subst e0
    exact go
theorem op_pick {rk : Nat → Nat → Int32} {sz' : Nat → Int32} {tn nn bn : Int32} {tc bb fr nm tg tw : Nat → Int32} {cn : Int32} {cc : Nat → Int32} {dn : Int32} {dc : Nat → Int32} {wm : Int32} {wv : Nat → Int32} {thr mn many lN lW : Int32} {bc mf mg li md st mt : Nat → Int32} {wm' : Int32} {mv : Nat → Int32} {x1 x2 x3 : Int32} (h : RelT cn cc mn mt) (hw : RelW wm wv wm' mv) (hl : RelL rk sz' lN lW many li) :
    pX10_pick cn cc dn dc rk sz' tn tc nn bn bb fr nm tg tw wv x1 x2 x3 (fun r a b _ _ c d _ _ _ _ _ _ _ _ _ v => pX11_pick thr mn many lN lW bc mf mg li md st mt mv x1 x2 x3 (fun r' _ mn' a' b' c' _ _ _ d' _ _ mt' v' => r = r' ∧ RelT a b mn' mt' ∧ RelW wm v wm' v' ∧ RelL c d b' c' a' d')) := by
  refine s_isListX (fun n w n1 n4 w1 e1 e2 => y1 ?_) (fun hn => y0 (z0 (s_isListM (fun q => absurd q hn) (fun _ => y0' (z0 ⟨rfl, h, hw, hl⟩)))))
  subst e1 e2
  have hin : rg 1 4 (nI n) ∧ rg 0 1 (nI w) := ⟨⟨n, n1, n4, rfl⟩, ⟨w, Nat.zero_le _, w1, rfl⟩⟩
  have h19 := gw_le (w := w) (K := fac n ^ n) n1 n4 (Nat.le_refl _)
  have hwt : wtot n w ≤ 19 := h19
  have em : (nI (wtot n w) - 1).toInt = (wtot n w : Int) - 1 := pk_sub_toInt (a := wtot n w) (b := 1) (by omega) (by decide)
  have no : ∀ c d, RLX c d → ¬ (0 ≤ x3.toInt ∧ x3.toInt ≤ (wtot n w : Int) - 1) → pX11_pick thr mn many lN lW bc mf mg li md st mt mv (nI n) (nI w) x3 (fun r' _ mn' a' b' c' _ _ _ d' _ _ mt' v' => (0 : Int32) = r' ∧ RelT cn cc mn' mt' ∧ RelW wm wv wm' v' ∧ RelL c d b' c' a' d') := by
    intro c d hcd hn
    refine s_isListM (fun _ => y1' ?_) (fun q => absurd hin q)
    refine s_lists n1 n4 w1 hl.2 (fun many2 lN2 lW2 bc2 mf2 mg2 li2 md2 st2 mt2 hm2 hs2 et => ?_)
    rw [hs2.1]
    refine s_in32 (lo := 0) (hi := nI (wtot n w) - 1) rfl rfl (fun q => absurd (by rw [em, Int32.toInt_zero] at q; exact q) hn) (fun _ => y0' (z0 ⟨rfl, relT_same h et, hw, hcd, ?_⟩))
    rw [← hs2.1]
    exact hm2
  have go : 0 ≤ x3.toInt → pX10_pick_28 (fun r a b _ _ c d _ _ _ _ _ _ _ _ _ v => pX11_pick thr mn many lN lW bc mf mg li md st mt mv (nI n) (nI w) x3 (fun r' _ mn' a' b' c' _ _ _ d' _ _ mt' v' => r = r' ∧ RelT a b mn' mt' ∧ RelW wm v wm' v' ∧ RelL c d b' c' a' d')) (nI n) (nI w) x3 x3 (nI n) (nI w) cn cc dn dc rk sz' tn tc nn bn bb fr nm tg tw wv := by
    intro h0
    refine s_sizeOf n1 n4 w1 hl.1 (fun rk2 sz2 tn2 tc2 nn2 bn2 bb2 fr2 nm2 tg2 tw2 hx2 hs2 => ?_)
    have tm : (nI (wtot n w)).toInt = (wtot n w : Int) := nI_toInt (by omega)
    refine ⟨fun hlt => ?_, fun hge => z0 (no _ _ hx2 (fun q => hge ?_))⟩
    · rw [i_lt, tm] at hlt
      obtain ⟨i, hi31, ei⟩ := nI_of (x := x3) (by rw [i_lt, Int32.toInt_zero]; omega)
      have ti : x3.toInt = (i : Int) := by rw [ei, nI_toInt hi31]
      have hiw : i < wtot n w := by omega
      obtain ⟨k, k1, k2, k3⟩ := fb_ct_kth hiw
      have fin : pX10_pick_55 (fun r a b _ _ c d _ _ _ _ _ _ _ _ _ v => pX11_pick thr mn many lN lW bc mf mg li md st mt mv (nI n) (nI w) x3 (fun r' _ mn' a' b' c' _ _ _ d' _ _ mt' v' => r = r' ∧ RelT a b mn' mt' ∧ RelW wm v wm' v' ∧ RelL c d b' c' a' d')) x3 (nI n) (nI w) cn cc dn dc rk2 sz2 tn2 tc2 nn2 bn2 bb2 fr2 nm2 tg2 tw2 wv := by
        unfold pX10_pick_55
        rw [ei]
        refine s_unpack n1 n4 w1 hs2 k1 k2 k3 (by omega) (fun dc' hdc => s_adopt (z1 ?_))
        rw [← ei]
        refine s_isListM (fun _ => y1' ?_) (fun q => absurd hin q)
        refine s_lists n1 n4 w1 hl.2 (fun many2 lN2 lW2 bc2 mf2 mg2 li2 md2 st2 mt2 hm2 hs3 et => ?_)
        have e9 := hs3.1
        rw [e9]
        refine s_in32 (lo := 0) (hi := nI (wtot n w) - 1) rfl rfl (fun _ => y1' (s_straight ?_)) (fun q => absurd (by rw [em, Int32.toInt_zero]; omega) q)
        have hli := hs3.2 k k1 k2
        rw [k3] at hli
        refine lpW2_for 64 (fun u x4 t => x4 = nI u ∧ t = fa_fill (fun j => li2 (64 * i + j)) mt2 u) 0 (Nat.zero_le _) ⟨nI_0.symm, (fa_fill_0 _ _).symm⟩ ?_
        rintro u hu x4 t ⟨rfl, rfl⟩ R hR
        refine pk_le 64 u (fun hle => ?_) (fun hlt => ?_)
        · have eu : u = 64 := by omega
          subst eu
          refine z1 ⟨rfl, ⟨n, Tk n k, n1, by omega, rfl, rfl, tab_cpy hdc (by omega), tab_fill64 hli (by omega)⟩, relW_flat' hw, hx2, ?_⟩
          rw [← e9]
          exact hm2
        · rw [ei, ix64, nI_clamp (by omega), nI_clamp (by omega)]
          refine ⟨vp_in_nI (by omega) (by decide), vp_in_nI (by omega) (by decide), hR hlt _ _ ⟨nI_1 u, ?_⟩⟩
          exact fa_fill_succ (fun j => li2 (64 * i + j)) mt2 u
      refine pk_ne w 1 (by omega) (by omega) (fun e => ?_) (fun e => ?_)
      · have fin' := fin
        rw [e] at fin'
        rw [e]
        exact fin'
      · have e0 : w = 0 := by omega
        have fin' := fin
        rw [e0] at fin'
        rw [e0]
        exact fin'
    · rw [i_lt, tm]
      omega
  refine ⟨fun q => z0 (no _ _ hl.1 (fun w2 => ?_)), fun q => ?_⟩
  · rw [i_lt, Int32.toInt_zero] at q
    omega
  · have h0 : 0 ≤ x3.toInt := by
      rw [i_lt, Int32.toInt_zero] at q
      omega
    refine pk_ne w 1 (by omega) (by omega) (fun e => ?_) (fun e => ?_)
    · have g := go h0
      rw [e] at g
      rw [e]
      exact g
    · have e0 : w = 0 := by omega
      have g := go h0
      rw [e0] at g
      rw [e0]
      exact g
