/-! The bench's search for the least table. -/
theorem s_swapped {a b c : Nat} {K : Int32 → Prop} (ha : a < 2 ^ 31) (hb : b < 2 ^ 31) (hc : c < 2 ^ 31) (h : K (nI (sw a b c))) : pX4_swapped (nI c) (nI a) (nI b) K := by
  unfold sw at h
  refine pk_ne c a hc ha (fun e => ?_) (fun e => pk_ne c b hc hb (fun e2 => ?_) (fun e2 => ?_))
  · rw [if_pos e] at h
    exact h
  · rw [if_neg e, if_pos e2] at h
    exact h
  · rw [if_neg e, if_neg e2] at h
    exact h
def twin (N : Nat) (T : Nat → Nat → Nat) (a b : Nat) : Prop := ∀ c d, c < N → d < N → T (sw a b c) (sw a b d) = sw a b (T c d)
theorem twin_iso {N a b : Nat} {T : Nat → Nat → Nat} (ha : a < N) (hb : b < N) (h : twin N T a b) : iso N T T (sw a b) := ⟨sw_pm ha hb, fun c d hc hd => (h c d hc hd).symm⟩
theorem s_areTwins {N a b : Nat} {T : Nat → Nat → Nat} {cc : Nat → Int32} {K : Int32 → Prop} (ht : tab cc N T) (hN : N ≤ 8) (ha : a < N) (hb : b < N) (h1 : twin N T a b → K 1) (h0 : ¬ twin N T a b → K 0) : pX4_areTwins (nI N) cc (nI a) (nI b) K := by
  refine lpW1_for N (fun i x => x = nI i ∧ ∀ c d, c < i → d < N → T (sw a b c) (sw a b d) = sw a b (T c d)) 0 (Nat.zero_le _) ⟨nI_0.symm, fun c d hc => absurd hc (Nat.not_lt_zero _)⟩ ?_
  rintro i hi x ⟨rfl, hI⟩ R hR
  refine pk_le N i (fun hle => ?_) (fun hlt => ?_)
  · have e : i = N := by omega
    subst e
    exact z1 (h1 hI)
  · refine lpW1_for N (fun j x => x = nI j ∧ ∀ d, d < j → T (sw a b i) (sw a b d) = sw a b (T i d)) 0 (Nat.zero_le _) ⟨nI_0.symm, fun d hd => absurd hd (Nat.not_lt_zero _)⟩ ?_
    rintro j hj x ⟨rfl, hJ⟩ R2 hR2
    refine pk_le N j (fun hle2 => ?_) (fun hlt2 => ?_)
    · have e : j = N := by omega
      subst e
      refine hR hlt _ ⟨nI_1 i, fun c d hc hd => ?_⟩
      rcases Nat.lt_or_ge c i with q | q
      · exact hI c d q hd
      · rw [show c = i by omega]
        exact hJ d hd
    · have s1 := sw_lt ha hb hlt
      have s2 := sw_lt ha hb hlt2
      have b1 := (ht _ _ s1 s2).2
      have b2 := (ht i j hlt hlt2).2
      have s3 := sw_lt ha hb b2
      refine s_swapped (by omega) (by omega) (by omega) (s_swapped (by omega) (by omega) (by omega) (t_turned ht hN s1 s2 (t_turned ht hN hlt hlt2 (s_swapped (by omega) (by omega) (by omega) ?_))))
      refine pk_eq _ _ (fun e => hR2 hlt2 _ ⟨nI_1 j, fun d hd => ?_⟩) (fun e => z0 (h0 (fun q => e (q i j hlt hlt2))))
      rcases Nat.lt_or_ge d j with q | q
      · exact hJ d q
      · rw [show d = j by omega]
        exact e
/-- the twins' rows -/
def twOk (N : Nat) (T : Nat → Nat → Nat) (tw : Nat → Int32) : Prop := ∀ a, a < N → ∃ u, u < 256 ∧ tw a = nI u ∧ ∀ b, b < a → (u.testBit b = true ↔ twin N T a b)
theorem s_findTwins {N : Nat} {T : Nat → Nat → Nat} {tw cc : Nat → Int32} {K : (Nat → Int32) → Prop} (ht : tab cc N T) (hN : N ≤ 8) (h : ∀ tw', twOk N T tw' → K tw') : pX4_findTwins tw (nI N) cc K := by
  refine lpW2_for N (fun i x2 f => x2 = nI i ∧ ∀ a, a < i → ∃ u, u < 256 ∧ f a = nI u ∧ ∀ b, b < a → (u.testBit b = true ↔ twin N T a b)) 0 (Nat.zero_le _) ⟨nI_0.symm, fun a ha => absurd ha (Nat.not_lt_zero _)⟩ ?_
  rintro i hi x2 f ⟨rfl, hf⟩ R hR
  refine pk_le N i (fun hle => ?_) (fun hlt => ?_)
  · have e : i = N := by omega
    subst e
    exact h f hf
  · refine ⟨vp_in_nI (by omega) (by decide), ?_⟩
    rw [nI_clamp (by omega)]
    refine lpW2_for i (fun j x3 g => x3 = nI j ∧ (∀ a, a < i → ∃ u, u < 256 ∧ g a = nI u ∧ ∀ b, b < a → (u.testBit b = true ↔ twin N T a b)) ∧ ∃ u, u < 2 ^ j ∧ g i = nI u ∧ ∀ b, b < j → (u.testBit b = true ↔ twin N T i b)) 0 (Nat.zero_le _) ⟨nI_0.symm, fun a ha => ?_, 0, by decide, pk_us, fun b hb => absurd hb (Nat.not_lt_zero _)⟩ ?_
    · rw [pk_un (by omega)]
      exact hf a ha
    · rintro j hj x3 g ⟨rfl, hg, u, u1, u2, u3⟩ R2 hR2
      have p8 : 2 ^ j ≤ 256 := Nat.le_trans (Nat.pow_le_pow_right (by decide) (show j ≤ 8 by omega)) (by decide)
      refine pk_le i j (fun hle2 => ?_) (fun hlt2 => ?_)
      · have e : j = i := by omega
        subst e
        refine hR hlt _ _ ⟨nI_1 j, fun a ha => ?_⟩
        rcases Nat.lt_or_ge a j with q | q
        · exact hg a q
        · rw [show a = j by omega]
          exact ⟨u, by omega, u2, u3⟩
      · have hub : u.testBit j = false := Nat.testBit_lt_two_pow u1
        have pj : 2 ^ j < 2 ^ (j + 1) := Nat.pow_lt_pow_right (by decide) (by omega)
        refine s_areTwins ht hN hlt (by omega) (fun q => y1 ⟨vp_in_nI (by omega) (by decide), vp_in_nI (by omega) (by decide), hR2 hlt2 _ _ ⟨nI_1 j, fun a ha => ?_, u ||| 2 ^ j, ?_, ?_, fun b hb => ?_⟩⟩) (fun q => y0 (hR2 hlt2 _ _ ⟨nI_1 j, hg, u, by omega, u2, fun b hb => ?_⟩))
        · rw [nI_clamp (by omega), pk_un (by omega)]
          exact hg a ha
        · exact Nat.or_lt_two_pow (by omega) pj
        · rw [nI_clamp (by omega), pk_us, u2, n_bit (by omega), fa_or]
        · rw [fb_bit_set]
          rcases Nat.lt_or_ge b j with w | w
          · have : ¬ b = j := by omega
            simp only [this, decide_false, Bool.or_false]
            exact u3 b w
          · have : b = j := by omega
            subst this
            simp [q]
        · rcases Nat.lt_or_ge b j with w | w
          · exact u3 b w
          · have : b = j := by omega
            subst this
            rw [hub]
            exact ⟨fun z => Bool.noConfusion z, fun z => absurd z q⟩
theorem s_openTwin {N a : Nat} {T : Nat → Nat → Nat} {nm tw : Nat → Int32} {K : Int32 → Prop} (hN : N ≤ 8) (ha : a < N) (htw : twOk N T tw) (h1 : (∃ b, b < a ∧ twin N T a b ∧ nm b = -1) → K 1) (h0 : ¬ (∃ b, b < a ∧ twin N T a b ∧ nm b = -1) → K 0) : pX4_hasOpenTwin nm tw (nI N) (nI a) K := by
  obtain ⟨u, u1, u2, u3⟩ := htw a ha
  refine lpW1_for a (fun j x => x = nI j ∧ ∀ b, b < j → ¬ (twin N T a b ∧ nm b = -1)) 0 (Nat.zero_le _) ⟨nI_0.symm, fun b hb => absurd hb (Nat.not_lt_zero _)⟩ ?_
  rintro j hj x ⟨rfl, hJ⟩ R hR
  refine pk_le a j (fun hle => z0 (h0 (fun ⟨b, b1, b2⟩ => hJ b (by omega) b2))) (fun hlt => pk_le N j (fun hle => by omega) (fun hlt2 => ⟨vp_in_nI (by omega) (by decide), ?_⟩))
  have next : ¬ (twin N T a j ∧ nm j = -1) → R (nI j + 1) := fun q => hR hlt _ ⟨nI_1 j, fun b hb => by
    rcases Nat.lt_or_ge b j with w | w
    · exact hJ b w
    · rw [show b = j by omega]
      exact q⟩
  rw [nI_clamp (by omega), u2, n_tb (by omega) (by omega)]
  by_cases q : u.testBit j = true
  · rw [if_pos q]
    refine ⟨fun w => absurd rfl w, fun _ => ⟨vp_in_nI (by omega) (by decide), ?_⟩⟩
    rw [nI_clamp (by omega)]
    exact ⟨fun w => next (fun z => w z.2), fun w => z1 (h1 ⟨j, hlt, (u3 j hlt).mp q, w⟩)⟩
  · rw [if_neg q]
    exact ⟨fun _ => next (fun z => q ((u3 j hlt).mpr z.1)), fun w => absurd w (by decide)⟩
/-- the first row, so far, is above the best one's -/
def abv (B : Nat → Nat → Nat) (g : Nat → Nat) (c : Nat) : Prop := ∃ b, b ≤ c ∧ B 0 b < g b ∧ ∀ b', b' < b → g b' = B 0 b'
theorem s_above {N c : Nat} {B : Nat → Nat → Nat} {g : Nat → Nat} {bc fr : Nat → Int32} {K : Int32 → Prop} (hN : N ≤ 8) (hc : c < N) (hB : tab bc N B) (hfr : lbl fr (c + 1) g) (hg : ∀ j, j ≤ c → g j < N) (h1 : abv B g c → K 1) (h0 : K 0) : pX4_isAboveBest bc fr (nI c) K := by
  refine lpW1_for (c + 1) (fun j x => x = nI j ∧ ∀ b, b < j → g b = B 0 b) 0 (Nat.zero_le _) ⟨nI_0.symm, fun b hb => absurd hb (Nat.not_lt_zero _)⟩ ?_
  rintro j hj x ⟨rfl, hJ⟩ R hR
  refine pk_lt c j (fun hlt => z0 h0) (fun hge => ?_)
  have b1 := hg j hge
  have b2 := (hB 0 j (by omega) (by omega)).2
  refine ⟨vp_in_nI (by omega) (by decide), t_turned (a := 0) hB hN (by omega) (by omega) ?_⟩
  rw [nI_clamp (by omega), hfr j (by omega)]
  refine pk_eq (g j) (B 0 j) (fun e => hR (by omega) _ ⟨nI_1 j, fun b hb => ?_⟩) (fun e => ⟨vp_in_nI (by omega) (by decide), t_turned (a := 0) hB hN (by omega) (by omega) ?_⟩)
  · rcases Nat.lt_or_ge b j with w | w
    · exact hJ b w
    · rw [show b = j by omega]
      exact e
  · exact pk_le (g j) (B 0 j) (fun _ => z0 h0) (fun q => z1 (h1 ⟨j, hge, q, hJ⟩))
/-- the table of a full naming -/
def Bt (N : Nat) (T : Nat → Nat → Nat) (t : Nat → Nat) (i j : Nat) : Nat := inv N t (T (t i) (t j))
theorem Bt_iso {N : Nat} {T : Nat → Nat → Nat} {t : Nat → Nat} (ht : pm N t) : iso N T (Bt N T t) (inv N t) := by
  refine ⟨pm_ofF (fun v hv => (inv_ok ht hv).1) (fun u v hu hv e => by rw [← (inv_ok ht hu).2, ← (inv_ok ht hv).2, e]), fun a b ha hb => ?_⟩
  unfold Bt
  rw [(inv_ok ht ha).2, (inv_ok ht hb).2]
theorem Bt_ext {N : Nat} {T S : Nat → Nat → Nat} {t σ : Nat → Nat} (hT : ∀ a b, a < N → b < N → T a b < N) (ht : pm N t) (hs : iso N T S σ) (he : extN N t σ) : ∀ i j, i < N → j < N → S i j = Bt N T t i j := by
  intro i j hi hj
  have t1 := ht.1 i hi
  have t2 := ht.1 j hj
  have e := hs.2 (t i) (t j) t1 t2
  rw [he i hi, he j hj] at e
  unfold Bt
  obtain ⟨v1, v2⟩ := inv_ok ht (hT _ _ t1 t2)
  have e2 := he _ v1
  rw [v2, e] at e2
  exact e2
theorem stN_full {N : Nat} {t : Nat → Nat} {nm tg : Nat → Int32} (h : stN N N t nm tg) : pm N t ∧ ∀ x, x < N → nm x = nI (inv N t x) := by
  obtain ⟨h1, h2, h3, h4, h5, h6⟩ := h
  have hp : pm N t := ⟨h3, h4⟩
  refine ⟨hp, fun x hx => ?_⟩
  obtain ⟨v1, v2⟩ := inv_ok hp hx
  have := h5 _ v1
  rw [v2] at this
  exact this
theorem s_isLess {N : Nat} {T B : Nat → Nat → Nat} {t : Nat → Nat} {nm tg bc cc : Nat → Int32} {K : Int32 → Prop} (ht : tab cc N T) (hN : N ≤ 8) (hs : stN N N t nm tg) (hB : tab bc N B) (h1 : ltT N (Bt N T t) B → K 1) (h0 : ¬ ltT N (Bt N T t) B → K 0) : pX4_isLess bc nm tg (nI N) cc K := by
  obtain ⟨hp, hnm⟩ := stN_full hs
  have htg := hs.2.1
  have hT := tab_T ht
  refine lpW1_for N (fun i x => x = nI i ∧ ∀ a b, a < i → b < N → Bt N T t a b = B a b) 0 (Nat.zero_le _) ⟨nI_0.symm, fun a b ha => absurd ha (Nat.not_lt_zero _)⟩ ?_
  rintro i hi x ⟨rfl, hI⟩ R hR
  refine pk_le N i (fun hle => ?_) (fun hlt => ?_)
  · have e : i = N := by omega
    subst e
    exact z0 (h0 (fun q => lt_irr (lt_congL (fun a b ha hb => hI a b ha hb) q)))
  · refine lpW1_for N (fun j x => x = nI j ∧ ∀ b, b < j → Bt N T t i b = B i b) 0 (Nat.zero_le _) ⟨nI_0.symm, fun b hb => absurd hb (Nat.not_lt_zero _)⟩ ?_
    rintro j hj x ⟨rfl, hJ⟩ R2 hR2
    refine pk_le N j (fun hle2 => ?_) (fun hlt2 => ?_)
    · have e : j = N := by omega
      subst e
      refine hR hlt _ ⟨nI_1 i, fun a b ha hb => ?_⟩
      rcases Nat.lt_or_ge a i with q | q
      · exact hI a b q hb
      · rw [show a = i by omega]
        exact hJ b hb
    · have t1 := hp.1 i hlt
      have t2 := hp.1 j hlt2
      have b1 := hT _ _ t1 t2
      have b2 := (hB i j hlt hlt2).2
      have b3 := (inv_ok hp b1).1
      have before : ∀ a b, a < N → b < N → (a < i ∨ (a = i ∧ b < j)) → Bt N T t a b = B a b := fun a b ha hb w => by
        rcases w with w | ⟨w, w2⟩
        · exact hI a b w hb
        · rw [w]
          exact hJ b w2
      refine ⟨vp_in_nI (by omega) (by decide), vp_in_nI (by omega) (by decide), ?_⟩
      rw [nI_clamp (by omega), nI_clamp (by omega), htg i hlt, htg j hlt2]
      refine t_turned ht hN t1 t2 ⟨vp_in_nI (by omega) (by decide), t_turned hB hN hlt hlt2 ?_⟩
      rw [nI_clamp (by omega), hnm _ b1]
      refine pk_eq (inv N t (T (t i) (t j))) (B i j) (fun e => hR2 hlt2 _ ⟨nI_1 j, fun b hb => ?_⟩) (fun e => t_turned hB hN hlt hlt2 (pk_le (B i j) (inv N t (T (t i) (t j))) (fun q => z0 (h0 (lt_asym ⟨i, j, hlt, hlt2, show B i j < inv N t (T (t i) (t j)) by omega, fun a b ha hb w => (before a b ha hb w).symm⟩))) (fun q => z1 (h1 ⟨i, j, hlt, hlt2, q, before⟩))))
      rcases Nat.lt_or_ge b j with w | w
      · exact hJ b w
      · rw [show b = j by omega]
        exact e
theorem s_makeBest {N : Nat} {T : Nat → Nat → Nat} {t : Nat → Nat} {nm tg bc cc : Nat → Int32} {K : (Nat → Int32) → Prop} (ht : tab cc N T) (hN : N ≤ 8) (hs : stN N N t nm tg) (h : ∀ bc', tab bc' N (Bt N T t) → K bc') : pX4_makeBest bc nm tg (nI N) cc K := by
  obtain ⟨hp, hnm⟩ := stN_full hs
  have htg := hs.2.1
  have hT := tab_T ht
  refine lpW2_for N (fun i x f => x = nI i ∧ ∀ a b, a < i → b < N → f (8 * a + b) = nI (Bt N T t a b)) 0 (Nat.zero_le _) ⟨nI_0.symm, fun a b ha => absurd ha (Nat.not_lt_zero _)⟩ ?_
  rintro i hi x f ⟨rfl, hI⟩ R hR
  refine pk_le N i (fun hle => ?_) (fun hlt => ?_)
  · have e : i = N := by omega
    subst e
    exact h f (fun a b ha hb => ⟨hI a b ha hb, (inv_ok hp (hT _ _ (hp.1 a ha) (hp.1 b hb))).1⟩)
  · refine lpW2_for N (fun j x f => x = nI j ∧ (∀ a b, a < i → b < N → f (8 * a + b) = nI (Bt N T t a b)) ∧ ∀ b, b < j → f (8 * i + b) = nI (Bt N T t i b)) 0 (Nat.zero_le _) ⟨nI_0.symm, hI, fun b hb => absurd hb (Nat.not_lt_zero _)⟩ ?_
    rintro j hj x f ⟨rfl, h1, h2⟩ R2 hR2
    refine pk_le N j (fun hle2 => ?_) (fun hlt2 => ?_)
    · have e : j = N := by omega
      subst e
      refine hR hlt _ _ ⟨nI_1 i, fun a b ha hb => ?_⟩
      rcases Nat.lt_or_ge a i with q | q
      · exact h1 a b q hb
      · rw [show a = i by omega]
        exact h2 b hb
    · have t1 := hp.1 i hlt
      have t2 := hp.1 j hlt2
      have b1 := hT _ _ t1 t2
      refine ⟨vp_in_nI (by omega) (by decide), vp_in_nI (by omega) (by decide), ?_⟩
      rw [nI_clamp (by omega), nI_clamp (by omega), htg i hlt, htg j hlt2]
      refine t_turned ht hN t1 t2 ⟨vp_in_nI (by omega) (by decide), ?_⟩
      rw [nI_clamp (by omega), hnm _ b1]
      refine e_put (by omega) (by omega) (hR2 hlt2 _ _ ⟨nI_1 j, fun a b ha hb => ?_, fun b hb => ?_⟩)
      · rw [pk_un (by omega)]
        exact h1 a b ha hb
      · rcases Nat.lt_or_ge b j with q | q
        · rw [pk_un (by omega)]
          exact h2 b q
        · rw [show b = j by omega, pk_us]
          rfl
