/-! The model tries all names. -/
theorem s_ahead {N : Nat} {S B : Nat → Nat → Nat} {md bc : Nat → Int32} {K : Int32 → Prop} (hS : tab md N S) (hN : N ≤ 8) (hB : tab bc N B) (h1 : ltT N S B → K 1) (h0 : ¬ ltT N S B → K 0) : pX11_isMadeAhead (nI N) bc md K := by
  refine lpW1_for N (fun i x => x = nI i ∧ ∀ a b, a < i → b < N → S a b = B a b) 0 (Nat.zero_le _) ⟨nI_0.symm, fun a b ha => absurd ha (Nat.not_lt_zero _)⟩ ?_
  rintro i hi x ⟨rfl, hI⟩ R hR
  refine pk_le N i (fun hle => ?_) (fun hlt => ?_)
  · have e : i = N := by omega
    subst e
    exact z0 (h0 (fun q => lt_irr (lt_congL (fun a b ha hb => hI a b ha hb) q)))
  · refine lpW1_for N (fun j x => x = nI j ∧ ∀ b, b < j → S i b = B i b) 0 (Nat.zero_le _) ⟨nI_0.symm, fun b hb => absurd hb (Nat.not_lt_zero _)⟩ ?_
    rintro j hj x ⟨rfl, hJ⟩ R2 hR2
    refine pk_le N j (fun hle2 => ?_) (fun hlt2 => ?_)
    · have e : j = N := by omega
      subst e
      refine hR hlt _ ⟨nI_1 i, fun a b ha hb => ?_⟩
      rcases Nat.lt_or_ge a i with q | q
      · exact hI a b q hb
      · rw [show a = i by omega]
        exact hJ b hb
    · obtain ⟨s1, s2⟩ := hS i j hlt hlt2
      obtain ⟨b1, b2⟩ := hB i j hlt hlt2
      have before : ∀ a b, a < N → b < N → (a < i ∨ (a = i ∧ b < j)) → S a b = B a b := fun a b ha hb w => by
        rcases w with w | ⟨w, w2⟩
        · exact hI a b w hb
        · rw [w]
          exact hJ b w2
      rw [ix8', nI_clamp (by omega), s1, b1]
      refine ⟨vp_in_nI (by omega) (by decide), vp_in_nI (by omega) (by decide), pk_eq (S i j) (B i j) (fun e => hR2 hlt2 _ ⟨nI_1 j, fun b hb => ?_⟩) (fun e => ⟨vp_in_nI (by omega) (by decide), vp_in_nI (by omega) (by decide), pk_le (B i j) (S i j) (fun q => z0 (h0 (lt_asym ⟨i, j, hlt, hlt2, by omega, fun a b ha hb w => (before a b ha hb w).symm⟩))) (fun q => z1 (h1 ⟨i, j, hlt, hlt2, q, before⟩))⟩)⟩
      rcases Nat.lt_or_ge b j with w | w
      · exact hJ b w
      · rw [show b = j by omega]
        exact e
theorem s_isBestM {N : Nat} {T B : Nat → Nat → Nat} {mt bc : Nat → Int32} {K : Int32 → Prop} (ht : tab mt N T) (hN : N ≤ 8) (hB : tab bc N B) (h1 : (∀ a b, a < N → b < N → T a b = B a b) → K 1) (h0 : ¬ (∀ a b, a < N → b < N → T a b = B a b) → K 0) : pX11_isBest (nI N) bc mt K := by
  refine lpW2_for N (fun i f x => x = nI i ∧ ((f = 1 ∧ ∀ a b, a < i → b < N → T a b = B a b) ∨ (f = 0 ∧ ¬ ∀ a b, a < N → b < N → T a b = B a b))) 0 (Nat.zero_le _) ⟨nI_0.symm, Or.inl ⟨rfl, fun a b ha => absurd ha (Nat.not_lt_zero _)⟩⟩ ?_
  rintro i hi f x ⟨rfl, hI⟩ R hR
  refine pk_le N i (fun hle => ?_) (fun hlt => ?_)
  · have e : i = N := by omega
    subst e
    rcases hI with ⟨rfl, hI⟩ | ⟨rfl, hI⟩
    · exact z1 (h1 hI)
    · exact z0 (h0 hI)
  · refine lpW2_for N (fun j f x => x = nI j ∧ ((f = 1 ∧ (∀ a b, a < i → b < N → T a b = B a b) ∧ ∀ b, b < j → T i b = B i b) ∨ (f = 0 ∧ ¬ ∀ a b, a < N → b < N → T a b = B a b))) 0 (Nat.zero_le _) ⟨nI_0.symm, hI.imp (fun q => ⟨q.1, q.2, fun b hb => absurd hb (Nat.not_lt_zero _)⟩) (fun q => q)⟩ ?_
    rintro j hj f x ⟨rfl, hJ⟩ R2 hR2
    refine pk_le N j (fun hle2 => ?_) (fun hlt2 => ?_)
    · have e : j = N := by omega
      subst e
      refine hR hlt _ _ ⟨nI_1 i, hJ.imp (fun ⟨q1, q2, q3⟩ => ⟨q1, fun a b ha hb => ?_⟩) (fun q => q)⟩
      rcases Nat.lt_or_ge a i with q | q
      · exact q2 a b q hb
      · rw [show a = i by omega]
        exact q3 b hb
    · obtain ⟨b1, b2⟩ := hB i j hlt hlt2
      have b3 := (ht i j hlt hlt2).2
      have no : ¬ (∀ a b, a < N → b < N → T a b = B a b) → R2 0 (nI j + 1) := fun q => hR2 hlt2 _ _ ⟨nI_1 j, Or.inr ⟨rfl, q⟩⟩
      rcases hJ with ⟨rfl, q2, q3⟩ | ⟨rfl, q⟩
      · refine y1 ?_
        rw [ix8', nI_clamp (by omega), b1]
        refine ⟨vp_in_nI (by omega) (by decide), t_by ht hN hlt hlt2 (pk_ne (B i j) (T i j) (by omega) (by omega) (fun e => hR2 hlt2 _ _ ⟨nI_1 j, Or.inl ⟨rfl, q2, fun b hb => ?_⟩⟩) (fun e => no (fun z => e (z i j hlt hlt2).symm)))⟩
        rcases Nat.lt_or_ge b j with w | w
        · exact q3 b w
        · rw [show b = j by omega]
          exact e.symm
      · exact y0 (no q)
def mkS (N : Nat) (T : Nat → Nat → Nat) (f : Nat → Nat) (i j : Nat) : Nat := f (T (inv N f i) (inv N f j))
theorem mkS_iso {N : Nat} {T : Nat → Nat → Nat} {f : Nat → Nat} (hf : pm N f) : iso N T (mkS N T f) f :=
  ⟨hf, fun a b ha hb => by unfold mkS; rw [inv_f hf ha, inv_f hf hb]⟩
theorem iso_val {N : Nat} {T S : Nat → Nat → Nat} {f : Nat → Nat} (h : iso N T S f) : ∀ i j, i < N → j < N → S i j = mkS N T f i j := by
  intro i j hi hj
  obtain ⟨a1, a2⟩ := inv_ok h.1 hi
  obtain ⟨b1, b2⟩ := inv_ok h.1 hj
  have e := h.2 _ _ a1 b1
  rw [a2, b2] at e
  exact e.symm
theorem s_leastOf {N : Nat} {T : Nat → Nat → Nat} {bc mf md mt : Nat → Int32} {K : (Nat → Int32) → (Nat → Int32) → (Nat → Int32) → Prop} (ht : tab mt N T) (h1 : 1 ≤ N) (hN : N ≤ 8) (h : ∀ B bc' mf' md', lstT N T B → tab bc' N B → K bc' mf' md') : pX11_leastOf (nI N) bc mf md mt K := by
  have hT := tab_T ht
  have fl := fac_le N hN
  have fp := fac_pos N
  refine lpW2_for 64 (fun i x f => x = nI i ∧ f = fa_fill mt bc i) 0 (Nat.zero_le _) ⟨nI_0.symm, (fa_fill_0 _ _).symm⟩ ?_
  rintro i hi x f ⟨rfl, rfl⟩ R hR
  refine pk_le 64 i (fun hle => ?_) (fun hlt => ?_)
  · have e : i = 64 := by omega
    subst e
    refine lpW4_for (fac N) (fun p x1 b f g => x1 = nI p ∧ 1 ≤ p ∧ ∃ B, tab b N B ∧ mkd N T B ∧ ∀ q, q < p → ∀ S, iso N T S (pdg N q) → ¬ ltT N S B) 1 fp ⟨rfl, Nat.le_refl _, T, tab_fill64 ht hN, ⟨_, iso_id N T⟩, fun q hq S hS w => ?_⟩ ?_
    · have e0 : q = 0 := by omega
      subst e0
      have hS2 := iso_cong hT (g := fun i => i) (fun i hi => pdg_0 N hN i hi) hS
      refine lt_irr (lt_congL (fun a b ha hb => ?_) w)
      exact (hS2.2 a b ha hb).symm
    · rintro p hp x1 b f g ⟨rfl, hp1, B, b1, b2, b3⟩ R2 hR2
      refine s_factorial hN ?_ 10 (by omega)
      refine pk_le (fac N) p (fun hle2 => ?_) (fun hlt2 => ?_)
      · refine h B b f g ⟨b2, fun σ S hi w => ?_⟩ b1
        have hr := rnk_lt hi.1
        exact b3 (rnk N σ) (by omega) S (iso_cong hT (fun i hi2 => (pdg_rnk hN hi.1 i hi2).symm) hi) w
      · have hpm := pdg_pm hN hlt2
        refine s_permutation (by omega) (by decide) h1 hN hlt2 ?_
        have lf : lbl (fa_fill (fun i => nI (pdg N p i)) f N) N (pdg N p) := fun i hi => fa_fill_in hi
        generalize fa_fill (fun i => nI (pdg N p i)) f N = f1 at lf
        refine lpW2_for N (fun i x2 g => x2 = nI i ∧ ∀ a b, a < i → b < N → g (8 * pdg N p a + pdg N p b) = nI (pdg N p (T a b))) 0 (Nat.zero_le _) ⟨nI_0.symm, fun a b ha => absurd ha (Nat.not_lt_zero _)⟩ ?_
        rintro i hi x2 g ⟨rfl, hg⟩ R3 hR3
        refine pk_le N i (fun hle3 => ?_) (fun hlt3 => ?_)
        · have e : i = N := by omega
          subst e
          have hS : tab g i (mkS i T (pdg i p)) := by
            intro u v hu hv
            obtain ⟨a1, a2⟩ := inv_ok hpm hu
            obtain ⟨c1, c2⟩ := inv_ok hpm hv
            have e := hg _ _ a1 c1
            rw [a2, c2] at e
            exact ⟨e, hpm.1 _ (hT _ _ a1 c1)⟩
          have hall : ∀ B', (¬ ltT i B B') → ¬ ltT i (mkS i T (pdg i p)) B' → ∀ q, q < p + 1 → ∀ S, iso i T S (pdg i q) → ¬ ltT i S B' := by
            intro B' w1 w2 q hq S hS'
            rcases Nat.lt_or_ge q p with z | z
            · exact nlt_down (b3 q z S hS') w1
            · rw [show q = p by omega] at hS'
              exact fun w => w2 (lt_congL (iso_val hS') w)
          refine s_ahead hS hN b1 (fun w => y1 ?_) (fun w => y0 (hR2 hlt2 _ _ _ _ ⟨nI_1 p, by omega, B, b1, b2, hall B lt_irr w⟩))
          refine lpW2_for 64 (fun k x2 b' => x2 = nI k ∧ b' = fa_fill g b k) 0 (Nat.zero_le _) ⟨nI_0.symm, (fa_fill_0 _ _).symm⟩ ?_
          rintro k hk x2 b' ⟨rfl, rfl⟩ R4 hR4
          refine pk_le 64 k (fun hle4 => ?_) (fun hlt4 => ?_)
          · have e : k = 64 := by omega
            subst e
            exact hR2 hlt2 _ _ _ _ ⟨nI_1 p, by omega, _, tab_fill64 hS hN, ⟨_, mkS_iso hpm⟩, hall _ (lt_asym w) lt_irr⟩
          · refine ⟨vp_in_nI (by omega) (by decide), vp_in_nI (by omega) (by decide), hR4 hlt4 _ _ ⟨nI_1 k, ?_⟩⟩
            rw [nI_clamp (by omega)]
            exact fa_fill_succ g b k
        · refine lpW2_for N (fun j x3 g => x3 = nI j ∧ (∀ a b, a < i → b < N → g (8 * pdg N p a + pdg N p b) = nI (pdg N p (T a b))) ∧ ∀ b, b < j → g (8 * pdg N p i + pdg N p b) = nI (pdg N p (T i b))) 0 (Nat.zero_le _) ⟨nI_0.symm, hg, fun b hb => absurd hb (Nat.not_lt_zero _)⟩ ?_
          rintro j hj x3 g ⟨rfl, hg1, hg2⟩ R4 hR4
          refine pk_le N j (fun hle4 => ?_) (fun hlt4 => ?_)
          · have e : j = N := by omega
            subst e
            refine hR3 hlt3 _ _ ⟨nI_1 i, fun a b ha hb => ?_⟩
            rcases Nat.lt_or_ge a i with q | q
            · exact hg1 a b q hb
            · rw [show a = i by omega]
              exact hg2 b hb
          · have d1 := hpm.1 i hlt3
            have d2 := hpm.1 j hlt4
            have bt := hT i j hlt3 hlt4
            have inj : ∀ a b, a < N → b < N → 8 * pdg N p a + pdg N p b = 8 * pdg N p i + pdg N p j → a = i ∧ b = j := fun a b ha hb e => by
              have q1 := hpm.1 a ha
              have q2 := hpm.1 b hb
              exact ⟨pm_inj hpm ha hlt3 (by omega), pm_inj hpm hb hlt4 (by omega)⟩
            refine ⟨vp_in_nI (by omega) (by decide), vp_in_nI (by omega) (by decide), t_by ht hN hlt3 hlt4 ⟨vp_in_nI (by omega) (by decide), ?_⟩⟩
            rw [nI_clamp (by omega), nI_clamp (by omega), nI_clamp (by omega), lf i hlt3, lf j hlt4, lf _ bt, ix8', nI_clamp (by omega)]
            refine ⟨vp_in_nI (by omega) (by decide), hR4 hlt4 _ _ ⟨nI_1 j, fun a b ha hb => ?_, fun b hb => ?_⟩⟩
            · rw [pk_un (fun e => by have := (inj a b (by omega) hb e).1; omega)]
              exact hg1 a b ha hb
            · rcases Nat.lt_or_ge b j with q | q
              · rw [pk_un (fun e => by have := (inj i b hlt3 (by omega) e).2; omega)]
                exact hg2 b q
              · rw [show b = j by omega, pk_us]
  · refine ⟨vp_in_nI (by omega) (by decide), vp_in_nI (by omega) (by decide), hR hlt _ _ ⟨nI_1 i, ?_⟩⟩
    rw [nI_clamp (by omega)]
    exact fa_fill_succ mt bc i
theorem tab_eq {c : Nat → Int32} {N : Nat} {T S : Nat → Nat → Nat} (h : tab c N T) (e : ∀ a b, a < N → b < N → T a b = S a b) : tab c N S := fun a b ha hb => by
  rw [← e a b ha hb]
  exact h a b ha hb
theorem op_least {cn : Int32} {cc : Nat → Int32} {dn : Int32} {dc : Nat → Int32} {nn bn : Int32} {bb nf nm ng nt : Nat → Int32} {wm : Int32} {wv : Nat → Int32} {thr mn : Int32} {mb mf md mt : Nat → Int32} {wm' : Int32} {mv : Nat → Int32} (h : RelT cn cc mn mt) (hw : RelW wm wv wm' mv) :
    pX10_least cn cc dn dc nn bn bb nf nm ng nt wv (fun r a b _ _ _ _ _ _ _ _ _ w => pX11_least thr mn mb mf md mt mv (fun r' _ _ _ _ b' w' => r = r' ∧ RelT a b mn b' ∧ RelW wm w wm' w')) := by
  obtain ⟨N, T, h1, h8, rfl, rfl, hx, hm⟩ := h
  refine s_lessen hx h8 (fun B n bc' fr' nm' tg' tw' hl hb => ⟨fun e => ?_, fun e => ?_⟩)
  · refine s_copy (s_adopt (z0 ?_))
    refine s_leastOf hm h1 h8 (fun B2 bc2 mf2 md2 hl2 hb2 => s_straight ?_)
    have e2 := lstT_one hl hl2
    refine s_isBestM hm h8 hb2 (fun w => y1 (z0 ⟨rfl, ⟨N, T, h1, h8, rfl, rfl, tab_cpy (tab_cpy (tab_eq hb (fun a b ha hb => (e a b ha hb).symm)) h8) h8, hm⟩, relW_flat' hw⟩)) (fun w => absurd (fun a b ha hb => by rw [e a b ha hb, e2 a b ha hb]) w)
  · refine s_copy (s_adopt (z1 ?_))
    refine s_leastOf hm h1 h8 (fun B2 bc2 mf2 md2 hl2 hb2 => s_straight ?_)
    have e2 := lstT_one hl hl2
    refine s_isBestM hm h8 hb2 (fun w => absurd (fun a b ha hb => by rw [w a b ha hb, e2 a b ha hb]) e) (fun w => y0 ?_)
    refine lpW2_for 64 (fun k x t => x = nI k ∧ t = fa_fill bc2 mt k) 0 (Nat.zero_le _) ⟨nI_0.symm, (fa_fill_0 _ _).symm⟩ ?_
    rintro k hk x t ⟨rfl, rfl⟩ R hR
    refine pk_le 64 k (fun hle => ?_) (fun hlt => ?_)
    · have e9 : k = 64 := by omega
      subst e9
      exact z1 ⟨rfl, ⟨N, B, h1, h8, rfl, rfl, tab_cpy (tab_cpy hb h8) h8, tab_fill64 (tab_eq hb2 (fun a b ha hb => (e2 a b ha hb).symm)) h8⟩, relW_flat' hw⟩
    · refine ⟨vp_in_nI (by omega) (by decide), vp_in_nI (by omega) (by decide), hR hlt _ _ ⟨nI_1 k, ?_⟩⟩
      rw [nI_clamp (by omega)]
      exact fa_fill_succ bc2 mt k
