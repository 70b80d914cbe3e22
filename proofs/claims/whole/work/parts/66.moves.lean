/-! The model meets all that the rows make, one after another. -/
theorem nar0 : vp_nar .boolean (0 : Int32) = 0 := by decide
theorem nar1 : vp_nar .boolean (1 : Int32) = 1 := by decide
/-- the numbers met so far: w gives them in order -/
def bfs (N : Nat) (G : (Nat → Nat) → Prop) (many : Nat) (w : Nat → Nat) (met qu : Nat → Int32) : Prop :=
  1 ≤ many ∧ many ≤ fac N ∧ (∀ i, i < many → w i < fac N ∧ qu i = nI (w i) ∧ met (w i) = 1 ∧ G (pdg N (w i))) ∧ (∀ i j, i < j → j < many → w i ≠ w j) ∧ (∀ p, p < fac N → (∀ i, i < many → w i ≠ p) → met p = 0) ∧ w 0 = 0
theorem bfs_add {N : Nat} {G : (Nat → Nat) → Prop} {many p : Nat} {w : Nat → Nat} {met qu : Nat → Int32} (h : bfs N G many w met qu) (hp : p < fac N) (hn : ¬ inO w many p) (hg : G (pdg N p)) : many < fac N ∧ bfs N G (many + 1) (updN w many p) (upd met p 1) (upd qu many (nI p)) := by
  obtain ⟨h1, h2, h3, h4, h5, h6⟩ := h
  have hn' : ∀ i, i < many → w i ≠ p := fun i hi e => hn ⟨i, hi, e⟩
  have eo : ∀ i, i < many → updN w many p i = w i := fun i hi => by
    unfold updN
    rw [if_neg (by omega)]
  have en : updN w many p many = p := by
    unfold updN
    rw [if_pos rfl]
  have inj : ∀ i j, i < j → j < many + 1 → updN w many p i ≠ updN w many p j := by
    intro i j hij hj
    rw [eo i (by omega)]
    by_cases e : j = many
    · rw [e, en]
      exact hn' i (by omega)
    · rw [eo j (by omega)]
      exact h4 i j hij (by omega)
  have lt : ∀ i, i < many + 1 → updN w many p i < fac N := by
    intro i hi
    by_cases e : i = many
    · rw [e, en]
      exact hp
    · rw [eo i (by omega)]
      exact (h3 i (by omega)).1
  have hle := fb_holes (fac N) (many + 1) (updN w many p) lt inj
  refine ⟨by omega, by omega, hle, fun i hi => ?_, inj, fun x hx hxn => ?_, ?_⟩
  · refine ⟨lt i hi, ?_⟩
    by_cases e : i = many
    · rw [e, en, pk_us, pk_us]
      exact ⟨rfl, rfl, hg⟩
    · rw [eo i (by omega), pk_un e, pk_un (hn' i (by omega))]
      exact (h3 i (by omega)).2
  · have e1 : x ≠ p := fun z => hxn many (by omega) (by rw [en, z])
    rw [pk_un e1]
    exact h5 x hx (fun i hi z => hxn i (by omega) (by rw [eo i hi]; exact z))
  · rw [eo 0 (by omega)]
    exact h6
theorem bfs_cnt {N many : Nat} {S : (Nat → Nat) → Prop} {w : Nat → Nat} {met qu : Nat → Int32} (hN : N ≤ 8) (hS : ∀ s, S s → pm N s) (h : bfs N (Mn N S) many w met qu) (hcl : ∀ i, i < many → ∀ s, S s → inO w many (rnk N (fun x => s (pdg N (w i) x)))) : cnt N (Mn N S) = many := by
  obtain ⟨h1, h2, h3, h4, h5, h6⟩ := h
  have hall : fb_ct (fun _ => true) many = many := fb_ct_all.mpr (fun _ _ => rfl)
  have key : ∀ f, Mn N S f → inO w many (rnk N f) := by
    intro f hf
    have hk : pm N f ∧ inO w many (rnk N f) := by
      refine hf (fun f => pm N f ∧ inO w many (rnk N f)) ⟨Mn_pm hS Mn_id, 0, by omega, ?_⟩ (fun s g hs hg => ?_) (fun g k e hg => ?_)
      · rw [h6, rnk_cong (g := pdg N 0) (fun i hi => (pdg_0 N hN i hi).symm), rnk_pdg hN (fac_pos N)]
      · obtain ⟨gp, i, i1, i2⟩ := hg
        have sp := hS s hs
        refine ⟨pm_ofF (fun x hx => sp.1 _ (gp.1 x hx)) (fun x y hx hy e => pm_inj gp hx hy (pm_inj sp (gp.1 x hx) (gp.1 y hy) e)), ?_⟩
        have := hcl i i1 s hs
        rw [i2, rnk_cong (g := fun x => s (g x)) (fun x hx => by show s (pdg N (rnk N g) x) = s (g x); rw [pdg_rnk hN gp x hx])] at this
        exact this
      · exact ⟨pm_cong e hg.1, by rw [← rnk_cong (f := g) (g := k) e]; exact hg.2⟩
    exact hk.2
  unfold cnt
  refine Nat.le_antisymm ?_ ?_
  · conv => rhs; rw [← hall]
    have hin : ∀ p, p < fac N → dB (Mn N S (pdg N p)) = true → inO w many p := fun p hp hP => by
      have := key _ (dB_t.mp hP)
      rw [rnk_pdg hN hp] at this
      exact this
    refine ct_inj (φ := fun p => lst w p many) (fun p hp hP => ⟨(lst_ok (hin p hp hP)).1, rfl⟩) (fun p q hp hq hP hQ e => ?_)
    have e1 := (lst_ok (hin p hp hP)).2
    have e2 := (lst_ok (hin q hq hQ)).2
    have e' : lst w p many = lst w q many := e
    rw [← e1, ← e2, e']
  · conv => lhs; rw [← hall]
    refine ct_inj (φ := w) (fun i hi _ => ⟨(h3 i hi).1, dB_t.mpr (h3 i hi).2.2.2⟩) (fun i j hi hj _ _ e => ?_)
    rcases Nat.lt_trichotomy i j with z | z | z
    · exact absurd e (h4 i j z hj)
    · exact z
    · exact absurd e.symm (h4 j i z hi)
theorem s_movesM {N : Nat} {T : Nat → Nat → Nat} {thr : Int32} {mf mg met qu mt : Nat → Int32} {K : Int32 → Int32 → (Nat → Int32) → (Nat → Int32) → (Nat → Int32) → (Nat → Int32) → Prop} (ht : tab mt N T) (h1 : 1 ≤ N) (hN : N ≤ 8) (hr : torn T N = none) (h : ∀ f g m q, K (nI (cnt N (Mn N (rowS N T)))) thr f g m q) : lpW2 (pX11_moves_24 (nI N) mt K (nI (fac N)) thr mf mg qu) (0 : Int32) met := by
  have hT := tab_T ht
  have rp : ∀ a, a < N → pm N (T a) := fun a ha => pm_ofF (fun i hi => hT a i ha hi) (fun i j hi hj e => row_inj hT hr ha hi hj e)
  have rpS : ∀ s, rowS N T s → pm N s := fun s ⟨a, ha, e⟩ => by rw [e]; exact rp a ha
  have fl := fac_le N hN
  have fp := fac_pos N
  refine lpW2_for (fac N) (fun i x2 f => x2 = nI i ∧ ∀ k, k < i → f k = 0) 0 (Nat.zero_le _) ⟨nI_0.symm, fun k hk => absurd hk (Nat.not_lt_zero _)⟩ ?_
  rintro i hi x2 f ⟨rfl, hf⟩ R hR
  refine pk_le (fac N) i (fun hle => ?_) (fun hlt => ?_)
  · have ei : i = fac N := by omega
    subst ei
    refine ⟨vp_in_nI (n := 0) (by decide) (by decide), vp_in_nI (n := 0) (by decide) (by decide), ?_⟩
    rw [sb_cl0, nar1]
    have st0 : bfs N (Mn N (rowS N T)) 1 (fun _ => 0) (upd f 0 1) (upd qu 0 0) := by
      refine ⟨Nat.le_refl _, fp, fun i hi => ?_, fun i j hij hj => by omega, fun p hp hn => ?_, rfl⟩
      · rw [show i = 0 by omega, pk_us, pk_us]
        exact ⟨fp, rfl, rfl, Mn_cong (fun i hi => (pdg_0 N hN i hi).symm) Mn_id⟩
      · have : p ≠ 0 := fun z => hn 0 (by omega) z.symm
        rw [pk_un this]
        exact hf p hp
    refine lpW6_for (fac N) (fun k x2 x3 _ _ m q => x3 = nI k ∧ ∃ many w, x2 = nI many ∧ k ≤ many ∧ bfs N (Mn N (rowS N T)) many w m q ∧ ∀ i, i < k → ∀ s, rowS N T s → inO w many (rnk N (fun x => s (pdg N (w i) x)))) 0 (Nat.zero_le _) ⟨nI_0.symm, 1, _, rfl, Nat.zero_le _, st0, fun i hi => absurd hi (Nat.not_lt_zero _)⟩ ?_
    rintro k hk x2 x3 f2 g2 m q ⟨rfl, many, w, rfl, hkm, hb, hcl⟩ R1 hR1
    obtain ⟨b1, b2, b3, b4, b5, b6⟩ := id hb
    refine pk_le many k (fun hle1 => ?_) (fun hlt1 => ⟨vp_in_nI (by omega) (by decide), ?_⟩)
    · rw [← bfs_cnt hN rpS hb (fun i hi => hcl i (by omega))]
      exact h _ _ _ _
    · obtain ⟨w1, w2, w3, w4⟩ := b3 k hlt1
      rw [nI_clamp (by omega), w2]
      have wp := pdg_pm hN w1
      refine s_permutation (by omega) (by decide) h1 hN w1 ?_
      have lf : lbl (fa_fill (fun i => nI (pdg N (w k) i)) f2 N) N (pdg N (w k)) := fun i hi => fa_fill_in hi
      generalize fa_fill (fun i => nI (pdg N (w k) i)) f2 N = f3 at lf
      refine lpW5_for N (fun a x2 x4 _ m q => x4 = nI a ∧ ∃ many2 w2, x2 = nI many2 ∧ many ≤ many2 ∧ (∀ i, i < many → w2 i = w i) ∧ bfs N (Mn N (rowS N T)) many2 w2 m q ∧ ∀ a', a' < a → inO w2 many2 (rnk N (fun x => T a' (pdg N (w k) x)))) 0 (Nat.zero_le _) ⟨nI_0.symm, many, w, rfl, Nat.le_refl _, fun _ _ => rfl, hb, fun a' ha' => absurd ha' (Nat.not_lt_zero _)⟩ ?_
      rintro a ha x2 x4 g4 m4 q4 ⟨rfl, many2, v, rfl, hmm, hsame, hb2, hcl2⟩ R2 hR2
      have up : ∀ x, inO w many x → inO v many2 x := fun x ⟨i, i1, i2⟩ => ⟨i, by omega, by rw [hsame i i1]; exact i2⟩
      refine pk_le N a (fun hle2 => ?_) (fun hlt2 => ?_)
      · refine hR1 (by omega) _ _ _ _ _ _ ⟨nI_1 k, many2, v, rfl, by omega, hb2, fun i hi s hs => ?_⟩
        rw [hsame i (by omega)]
        rcases Nat.lt_or_ge i k with z | z
        · exact up _ (hcl i z s hs)
        · rw [show i = k by omega]
          obtain ⟨a', ha', e⟩ := hs
          rw [e]
          exact hcl2 a' (by omega)
      · have gp : pm N (fun x => T a (pdg N (w k) x)) := pm_ofF (fun x hx => (rp a hlt2).1 _ (wp.1 x hx)) (fun x y hx hy e => pm_inj wp hx hy (pm_inj (rp a hlt2) (wp.1 x hx) (wp.1 y hy) e))
        refine lpW2_for N (fun j x5 g => x5 = nI j ∧ lbl g j (fun x => T a (pdg N (w k) x))) 0 (Nat.zero_le _) ⟨nI_0.symm, fun x hx => absurd hx (Nat.not_lt_zero _)⟩ ?_
        rintro j hj x5 g ⟨rfl, hg⟩ R3 hR3
        refine pk_le N j (fun hle3 => ?_) (fun hlt3 => ?_)
        · have ej : j = N := by omega
          subst ej
          have hlt9 := rnk_lt gp
          refine s_numberOf (by omega) (by decide) hN hg gp ⟨vp_in_nI (by omega) (by decide), ?_⟩
          rw [nI_clamp (by omega)]
          obtain ⟨c1, c2, c3, c4, c5, c6⟩ := id hb2
          by_cases hin : inO v many2 (rnk j (fun x => T a (pdg j (w k) x)))
          · obtain ⟨i, i1, i2⟩ := id hin
            rw [← i2, (c3 i i1).2.2.1]
            refine ⟨fun _ => hR2 hlt2 _ _ _ _ _ ⟨nI_1 a, many2, v, rfl, hmm, hsame, hb2, fun a' ha' => ?_⟩, fun z => absurd z (by decide)⟩
            rcases Nat.lt_or_ge a' a with z | z
            · exact hcl2 a' z
            · rw [show a' = a by omega]
              exact hin
          · have hgM : Mn j (rowS j T) (pdg j (rnk j (fun x => T a (pdg j (w k) x)))) := Mn_cong (fun x hx => (pdg_rnk hN gp x hx).symm) (Mn_mul ⟨a, hlt2, rfl⟩ w4)
            obtain ⟨r1, r2⟩ := bfs_add hb2 hlt9 hin hgM
            rw [c5 _ hlt9 (fun i hi z => hin ⟨i, hi, z⟩)]
            refine ⟨fun z => absurd rfl z, fun _ => ⟨vp_in_nI (by omega) (by decide), vp_in_nI (by omega) (by decide), ?_⟩⟩
            rw [nI_clamp (by omega), nar1]
            refine hR2 hlt2 _ _ _ _ _ ⟨nI_1 a, many2 + 1, _, nI_1 many2, by omega, fun i hi => ?_, r2, fun a' ha' => ?_⟩
            · unfold updN
              rw [if_neg (by omega)]
              exact hsame i hi
            · rcases Nat.lt_or_ge a' a with z | z
              · obtain ⟨i, i1, i2⟩ := hcl2 a' z
                exact ⟨i, by omega, by unfold updN; rw [if_neg (by omega)]; exact i2⟩
              · rw [show a' = a by omega]
                exact ⟨many2, by omega, by unfold updN; rw [if_pos rfl]⟩
        · have bw := wp.1 j hlt3
          refine ⟨vp_in_nI (by omega) (by decide), ?_⟩
          rw [nI_clamp (by omega), lf j hlt3]
          refine t_by ht hN hlt2 bw ⟨vp_in_nI (by omega) (by decide), hR3 hlt3 _ _ ⟨nI_1 j, fun x hx => ?_⟩⟩
          by_cases e : x = j
          · rw [e, pk_us]
          · rw [pk_un e]
            exact hg x (by omega)
  · refine ⟨vp_in_nI (by omega) (by decide), hR hlt _ _ ⟨nI_1 i, fun k hk => ?_⟩⟩
    rw [nI_clamp (by omega), nar0]
    by_cases e : k = i
    · rw [e, pk_us]
    · rw [pk_un e]
      exact hf k (by omega)
theorem op_moves {cn : Int32} {cc : Nat → Int32} {ta tb tc : Nat → Int32} {thr mn : Int32} {mf mg met qu mt : Nat → Int32} (h : RelT cn cc mn mt) :
    pX10_moves cn cc ta tb tc (fun r _ _ _ => pX11_moves thr mn mf mg met qu mt (fun r' _ _ _ _ _ => r = r')) := by
  obtain ⟨N, T, h1, h8, rfl, rfl, hx, hm⟩ := h
  refine s_isRack hx h8 (fun hk => y1 (s_orderOf hx h1 h8 hk.1 (fun _ _ _ => ?_))) (fun hk => y0 (s_isRackM hm h8 (fun q => absurd q hk) (fun _ => y0' rfl)))
  refine s_isRackM hm h8 (fun _ => y1' (s_factorial h8 (s_movesM hm h1 h8 hk.1 (fun _ _ _ _ => rfl)) 10 (by omega))) (fun q => absurd hk q)
