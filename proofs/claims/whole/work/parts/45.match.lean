/-! Rows that make one table of another. -/
def iso (N : Nat) (T T' : Nat → Nat → Nat) (f : Nat → Nat) : Prop := pm N f ∧ ∀ a b, a < N → b < N → f (T a b) = T' (f a) (f b)
theorem iso_cong {N : Nat} {T T' : Nat → Nat → Nat} {f g : Nat → Nat} (hT : ∀ a b, a < N → b < N → T a b < N) (h : ∀ i, i < N → f i = g i) (hf : iso N T T' f) : iso N T T' g := by
  refine ⟨⟨fun i hi => by rw [← h i hi]; exact hf.1.1 i hi, fun i j hij hj => by rw [← h i (by omega), ← h j hj]; exact hf.1.2 i j hij hj⟩, fun a b ha hb => ?_⟩
  rw [← h a ha, ← h b hb, ← h _ (hT a b ha hb)]
  exact hf.2 a b ha hb
theorem iso_id (N : Nat) (T : Nat → Nat → Nat) : iso N T T (fun i => i) := ⟨⟨fun _ h => h, fun i j h _ => by show i ≠ j; omega⟩, fun _ _ _ _ => rfl⟩
theorem iso_comp {N : Nat} {T T' T'' : Nat → Nat → Nat} {f g : Nat → Nat} (hT : ∀ a b, a < N → b < N → T a b < N) (hf : iso N T T' f) (hg : iso N T' T'' g) : iso N T T'' (fun i => g (f i)) := by
  refine ⟨pm_ofF (fun i hi => hg.1.1 _ (hf.1.1 i hi)) (fun i j hi hj e => pm_inj hf.1 hi hj (pm_inj hg.1 (hf.1.1 i hi) (hf.1.1 j hj) e)), fun a b ha hb => ?_⟩
  show g (f (T a b)) = _
  rw [hf.2 a b ha hb, hg.2 _ _ (hf.1.1 a ha) (hf.1.1 b hb)]
def inv (N : Nat) (f : Nat → Nat) (v : Nat) : Nat := lst f v N
theorem inv_ok {N : Nat} {f : Nat → Nat} (h : pm N f) {v : Nat} (hv : v < N) : inv N f v < N ∧ f (inv N f v) = v := lst_ok (pm_onto h hv)
theorem inv_f {N : Nat} {f : Nat → Nat} (h : pm N f) {i : Nat} (hi : i < N) : inv N f (f i) = i := by
  obtain ⟨h1, h2⟩ := inv_ok h (h.1 i hi)
  exact pm_inj h h1 hi h2
theorem iso_inv {N : Nat} {T T' : Nat → Nat → Nat} {f : Nat → Nat} (hT : ∀ a b, a < N → b < N → T a b < N) (hf : iso N T T' f) : iso N T' T (inv N f) := by
  refine ⟨pm_ofF (fun v hv => (inv_ok hf.1 hv).1) (fun u v hu hv e => ?_), fun a b ha hb => ?_⟩
  · rw [← (inv_ok hf.1 hu).2, ← (inv_ok hf.1 hv).2, e]
  · obtain ⟨a1, a2⟩ := inv_ok hf.1 ha
    obtain ⟨b1, b2⟩ := inv_ok hf.1 hb
    have e := hf.2 _ _ a1 b1
    rw [a2, b2] at e
    rw [← e, inv_f hf.1 (hT _ _ a1 b1)]
/-! signs -/
def sgW (t a b x : Nat) : Nat := (if x = t then 1 else 0) + if t = b then (if x = a then 128 else 0) + (if x = b then 2048 else 0) + (if a = b then (if x = a then 32768 else 0) else 0) else 0
def sgn (T : Nat → Nat → Nat) (N x : Nat) : Nat := fb_sm (fun a => fb_sm (fun b => sgW (T a b) a b x) N) N
theorem sgn_iso {N : Nat} {T T' : Nat → Nat → Nat} {f : Nat → Nat} (hT : ∀ a b, a < N → b < N → T a b < N) (h : iso N T T' f) {x : Nat} (hx : x < N) : sgn T' N (f x) = sgn T N x := by
  unfold sgn
  rw [← sm_perm (g := fun a => fb_sm (fun b => sgW (T' a b) a b (f x)) N) h.1]
  refine fb_sm_cong (fun a ha => ?_)
  rw [← sm_perm (g := fun b => sgW (T' (f a) b) (f a) b (f x)) h.1]
  refine fb_sm_cong (fun b hb => ?_)
  have i1 : ∀ u v, u < N → v < N → (f u = f v ↔ u = v) := fun u v hu hv => ⟨fun e => pm_inj h.1 hu hv e, fun e => by rw [e]⟩
  have ht := hT a b ha hb
  unfold sgW
  rw [← h.2 a b ha hb]
  simp only [i1 x _ hx ht, i1 _ b ht hb, i1 x a hx ha, i1 x b hx hb, i1 a b ha hb]
theorem lbl_add {p : Nat → Int32} {N : Nat} {g : Nat → Nat} (h : lbl p N g) (i : Nat) (k : Int32) (c : Nat) (hk : k = nI c) (hi : i < N) : lbl (upd p i (p i + k)) N (fun x => g x + if x = i then c else 0) := by
  intro x hx
  by_cases e : x = i
  · show _ = nI (g x + if x = i then c else 0)
    rw [if_pos e, e, pk_us, h i hi, hk, nI_add]
  · show _ = nI (g x + if x = i then c else 0)
    rw [if_neg e, pk_un e, h x hx, Nat.add_zero]
theorem s_signs {c p : Nat → Int32} {N : Nat} {T : Nat → Nat → Nat} {K : (Nat → Int32) → Prop} (ht : tab c N T) (hN : N ≤ 8) (h : ∀ p', lbl p' N (sgn T N) → K p') : pX3_tellSigns 8 (nI N) c p K := by
  refine s_fill (by decide) ?_
  refine lpW2_for N (fun i x2 f => x2 = nI i ∧ lbl f N (fun x => fb_sm (fun a => fb_sm (fun b => sgW (T a b) a b x) N) i)) 0 (Nat.zero_le _) ⟨nI_0.symm, fun x hx => by rw [fa_fill_in (by omega)]; rfl⟩ ?_
  rintro i hi x2 f ⟨rfl, hf⟩ R hR
  refine pk_le N i (fun hle => ?_) (fun hlt => ?_)
  · have e : i = N := by omega
    subst e
    exact h f hf
  · refine lpW2_for N (fun j x3 g => x3 = nI j ∧ lbl g N (fun x => fb_sm (fun a => fb_sm (fun b => sgW (T a b) a b x) N) i + fb_sm (fun b => sgW (T i b) i b x) j)) 0 (Nat.zero_le _) ⟨nI_0.symm, hf⟩ ?_
    rintro j hj x3 g ⟨rfl, hg⟩ R2 hR2
    refine pk_le N j (fun hle2 => ?_) (fun hlt2 => ?_)
    · have e : j = N := by omega
      subst e
      exact hR hlt _ _ ⟨nI_1 i, hg⟩
    · have bt := (ht i j hlt hlt2).2
      refine t_turned ht hN hlt hlt2 ⟨vp_in_nI (by omega) (by decide), vp_in_nI (by omega) (by decide), ?_⟩
      rw [nI_clamp (by omega)]
      have l1 := lbl_add hg (T i j) 1 1 rfl bt
      refine pk_ne (T i j) j (by omega) (by omega) (fun e => ?_) (fun e => ?_)
      · refine ⟨vp_in_nI (by omega) (by decide), vp_in_nI (by omega) (by decide), vp_in_nI (by omega) (by decide), vp_in_nI (by omega) (by decide), ?_⟩
        rw [nI_clamp (by omega), nI_clamp (by omega)]
        have l2 := lbl_add l1 i 128 128 rfl hlt
        have l3 := lbl_add l2 j 2048 2048 rfl hlt2
        refine ⟨fun q => absurd (by rw [e]) q, fun _ => pk_ne i j (by omega) (by omega) (fun e2 => ⟨vp_in_nI (by omega) (by decide), vp_in_nI (by omega) (by decide), ?_⟩) (fun e2 => hR2 hlt2 _ _ ⟨nI_1 j, lbl_cong l3 (fun x hx => ?_)⟩)⟩
        · rw [nI_clamp (by omega)]
          have l4 := lbl_add l3 i 32768 32768 rfl hlt
          refine hR2 hlt2 _ _ ⟨nI_1 j, lbl_cong l4 (fun x hx => ?_)⟩
          show _ = fb_sm _ i + fb_sm _ (j + 1)
          rw [fb_sm_succ]
          unfold sgW
          rw [if_pos e, if_pos e2]
          omega
        · show _ = fb_sm _ i + fb_sm _ (j + 1)
          rw [fb_sm_succ]
          unfold sgW
          rw [if_pos e, if_neg e2]
          omega
      · refine ⟨fun _ => hR2 hlt2 _ _ ⟨nI_1 j, lbl_cong l1 (fun x hx => ?_)⟩, fun q => absurd (nI_inj (by omega) (by omega) q) e⟩
        show _ = fb_sm _ i + fb_sm _ (j + 1)
        rw [fb_sm_succ]
        unfold sgW
        rw [if_neg e]
        omega
theorem sgn_lt {T : Nat → Nat → Nat} {N x : Nat} (hN : N ≤ 8) : sgn T N x < 2 ^ 31 := by
  have h1 : ∀ t a b, sgW t a b x ≤ 34945 := by
    intro t a b
    unfold sgW
    split <;> split <;> (try split) <;> (try split) <;> (try split) <;> (try split) <;> omega
  have h2 : ∀ a, fb_sm (fun b => sgW (T a b) a b x) N ≤ N * 34945 := fun a => fb_sm_bound (fun b _ => h1 _ _ _)
  have h3 : sgn T N x ≤ N * (N * 34945) := fb_sm_bound (fun a _ => h2 a)
  have h4 : N * 34945 ≤ 8 * 34945 := Nat.mul_le_mul_right _ hN
  have h5 : N * (N * 34945) ≤ 8 * (8 * 34945) := Nat.mul_le_mul hN h4
  omega
/-! fits -/
def fitP (T T' : Nat → Nat → Nat) (N u : Nat) (g : Nat → Nat) (a b : Nat) : Prop := sgn T N a = sgn T' N b ∧ ∀ c d, c ≤ a → d ≤ a →
  (T c d ≤ a → updN g a b (T c d) = T' (updN g a b c) (updN g a b d)) ∧ (a < T c d → (u ||| 2 ^ b).testBit (T' (updN g a b c) (updN g a b d)) = false)
theorem lbl_updA {f : Nat → Int32} {a b : Nat} {g : Nat → Nat} (h : lbl f a g) : lbl (upd f a (nI b)) (a + 1) (updN g a b) := by
  intro k hk
  unfold updN
  by_cases e : k = a
  · rw [if_pos e, e, pk_us]
  · rw [if_neg e, pk_un e]
    exact h k (by omega)
theorem lbl_lo {f : Nat → Int32} {a b : Nat} {g : Nat → Nat} (h : lbl f (a + 1) (updN g a b)) : lbl f a g := by
  intro k hk
  rw [h k (by omega)]
  unfold updN
  rw [if_neg (by omega)]
theorem s_fits {T T' : Nat → Nat → Nat} {N u a b : Nat} {g : Nat → Nat} {c c' im sh st : Nat → Int32} {K : Int32 → (Nat → Int32) → Prop} (ht : tab c N T) (ht' : tab c' N T') (hN : N ≤ 8) (hu : u < 256) (ha : a < N) (hb : b < N) (hg : ∀ i, i < a → g i < N) (him : lbl im a g) (hsh : lbl sh N (sgn T N)) (hst : lbl st N (sgn T' N))
    (h1 : fitP T T' N u g a b → ∀ im', lbl im' (a + 1) (updN g a b) → K 1 im') (h0 : ¬ fitP T T' N u g a b → ∀ im', lbl im' a g → K 0 im') : pX3_fits (nI u) im sh st c c' (nI a) (nI b) K := by
  have b1 := sgn_lt (T := T) (x := a) hN
  have b2 := sgn_lt (T := T') (x := b) hN
  refine ⟨vp_in_nI (by omega) (by decide), vp_in_nI (by omega) (by decide), ?_⟩
  rw [nI_clamp (by omega), nI_clamp (by omega), hsh a ha, hst b hb]
  refine pk_eq (sgn T N a) (sgn T' N b) (fun es => ⟨vp_in_nI (by omega) (by decide), ?_⟩) (fun es => z0 (h0 (fun q => es q.1) im him))
  have him2 := lbl_updA (b := b) him
  have hg2 : ∀ i, i ≤ a → updN g a b i < N := by
    intro i hi
    unfold updN
    by_cases e : i = a
    · rw [if_pos e]
      exact hb
    · rw [if_neg e]
      exact hg i (by omega)
  have p8 : 2 ^ b < 256 := Nat.lt_of_lt_of_le (Nat.pow_lt_pow_right (by decide) (show b < 8 by omega)) (by decide)
  have hub : u ||| 2 ^ b < 256 := Nat.or_lt_two_pow (n := 8) hu p8
  rw [n_bit (by omega), fa_or]
  refine lpW1_for (a + 1) (fun i x => x = nI i ∧ ∀ c d, c < i → d ≤ a → (T c d ≤ a → updN g a b (T c d) = T' (updN g a b c) (updN g a b d)) ∧ (a < T c d → (u ||| 2 ^ b).testBit (T' (updN g a b c) (updN g a b d)) = false)) 0 (Nat.zero_le _) ⟨nI_0.symm, fun c d hc => absurd hc (Nat.not_lt_zero _)⟩ ?_
  rintro i hi x ⟨rfl, hI⟩ R hR
  refine pk_lt a i (fun hlt => ?_) (fun hge => ?_)
  · exact z1 (h1 ⟨es, fun c d hc hd => hI c d (by omega) hd⟩ _ him2)
  · refine lpW1_for (a + 1) (fun j x => x = nI j ∧ ∀ d, d < j → (T i d ≤ a → updN g a b (T i d) = T' (updN g a b i) (updN g a b d)) ∧ (a < T i d → (u ||| 2 ^ b).testBit (T' (updN g a b i) (updN g a b d)) = false)) 0 (Nat.zero_le _) ⟨nI_0.symm, fun d hd => absurd hd (Nat.not_lt_zero _)⟩ ?_
    rintro j hj x ⟨rfl, hJ⟩ R2 hR2
    refine pk_lt a j (fun hlt => ?_) (fun hge2 => ?_)
    · refine hR (by omega) _ ⟨nI_1 i, fun c d hc hd => ?_⟩
      rcases Nat.lt_or_ge c i with q | q
      · exact hI c d q hd
      · rw [show c = i by omega]
        exact hJ d (by omega)
    · have bt := (ht i j (by omega) (by omega)).2
      have g1 := hg2 i hge
      have g2 := hg2 j hge2
      have bt' := (ht' _ _ g1 g2).2
      refine t_turned ht hN (by omega) (by omega) ⟨vp_in_nI (by omega) (by decide), vp_in_nI (by omega) (by decide), ?_⟩
      rw [nI_clamp (by omega), nI_clamp (by omega), him2 i (by omega), him2 j (by omega)]
      refine t_turned ht' hN g1 g2 ?_
      have yes : ((T i j ≤ a → updN g a b (T i j) = T' (updN g a b i) (updN g a b j)) ∧ (a < T i j → (u ||| 2 ^ b).testBit (T' (updN g a b i) (updN g a b j)) = false)) → pX3_fits_126 (nI u) sh st c c' R R2 K (nI a) (nI (u ||| 2 ^ b)) (upd im a (nI b)) (nI i) (nI j) 1 := fun hh => by
        refine y1' (hR2 (by omega) _ ⟨nI_1 j, fun d hd => ?_⟩)
        rcases Nat.lt_or_ge d j with q | q
        · exact hJ d q
        · rw [show d = j by omega]
          exact hh
      have no : ¬ ((T i j ≤ a → updN g a b (T i j) = T' (updN g a b i) (updN g a b j)) ∧ (a < T i j → (u ||| 2 ^ b).testBit (T' (updN g a b i) (updN g a b j)) = false)) → pX3_fits_126 (nI u) sh st c c' R R2 K (nI a) (nI (u ||| 2 ^ b)) (upd im a (nI b)) (nI i) (nI j) 0 := fun hh =>
        y0' (z0 (h0 (fun q => hh (q.2 i j hge hge2)) _ (lbl_lo him2)))
      refine pk_lt a (T i j) (fun hl => ?_) (fun hl => ?_)
      · rw [n_tb (by omega) (by omega)]
        cases eb : (u ||| 2 ^ b).testBit (T' (updN g a b i) (updN g a b j)) with
        | true => exact ⟨fun _ => no (fun q => by have := q.2 hl; rw [eb] at this; cases this), fun q => absurd q (by decide)⟩
        | false => exact ⟨fun q => absurd rfl q, fun _ => yes ⟨fun q => by omega, fun _ => eb⟩⟩
      · refine ⟨vp_in_nI (by omega) (by decide), ?_⟩
        have gt := hg2 (T i j) hl
        rw [nI_clamp (by omega), him2 (T i j) (by omega)]
        exact pk_ne _ _ (by omega) (by omega) (fun e => yes ⟨fun _ => e, fun q => by omega⟩) (fun e => no (fun q => e (q.1 hl)))
/-- f goes on from g -/
def gos (N : Nat) (T T' : Nat → Nat → Nat) (a : Nat) (g : Nat → Nat) : Prop := ∃ f, iso N T T' f ∧ ∀ i, i < a → f i = g i
def cons (T T' : Nat → Nat → Nat) (a : Nat) (g : Nat → Nat) : Prop := ∀ c d, c < a → d < a → T c d < a → g (T c d) = T' (g c) (g d)
theorem fit_need {N a : Nat} {T T' : Nat → Nat → Nat} {g f : Nat → Nat} (hT : ∀ a b, a < N → b < N → T a b < N) (hf : iso N T T' f) (ha : a < N) (hg : ∀ i, i < a → f i = g i) : fitP T T' N (msk g a) g a (f a) := by
  have e : ∀ i, i ≤ a → updN g a (f a) i = f i := by
    intro i hi
    unfold updN
    by_cases q : i = a
    · rw [if_pos q, q]
    · rw [if_neg q, hg i (by omega)]
  refine ⟨(sgn_iso hT hf ha).symm, fun c d hc hd => ⟨fun h => ?_, fun h => ?_⟩⟩
  · rw [e _ h, e c hc, e d hd]
    exact hf.2 c d (by omega) (by omega)
  · rw [e c hc, e d hd, ← hf.2 c d (by omega) (by omega)]
    have ht := hT c d (by omega) (by omega)
    rw [fb_bit_set]
    have h1 : ¬ (msk g a).testBit (f (T c d)) = true := by
      rw [msk_bit]
      rintro ⟨i, hi, ei⟩
      rw [← hg i hi] at ei
      have := pm_inj hf.1 (by omega) ht ei
      omega
    have h2 : ¬ f (T c d) = f a := fun q => by
      have := pm_inj hf.1 ht ha q
      omega
    simp [h1, h2]
theorem fit_cons {N a b u : Nat} {T T' : Nat → Nat → Nat} {g : Nat → Nat} (h : fitP T T' N u g a b) : cons T T' (a + 1) (updN g a b) := fun c d hc hd ht => (h.2 c d (by omega) (by omega)).1 (by omega)
theorem n_clr : ∀ b, b < 8 → ∀ u, u < 256 → u.testBit b = false → nI (u ||| 2 ^ b) &&& ((1 : Int32) <<< (nI b &&& 31) ^^^ (-1 : Int32)) = nI u := by decide +kernel
theorem msk_up {g : Nat → Nat} {a b : Nat} : msk g a ||| 2 ^ b = msk (updN g a b) (a + 1) := by
  show _ = msk (updN g a b) a ||| 2 ^ updN g a b a
  have e : updN g a b a = b := by unfold updN; rw [if_pos rfl]
  rw [e, msk_cong (f := updN g a b) (g := g) (fun i hi => by unfold updN; rw [if_neg (by omega)])]
/-- what a call that goes on from a is to do, at depth d -/
def CG (N : Nat) (T T' : Nat → Nat → Nat) (c c' sh st : Nat → Int32) (d a : Nat) : Prop := ∀ (im : Nat → Int32) (g : Nat → Nat) (K : Int32 → Int32 → (Nat → Int32) → Prop), lbl im a g → (∀ i, i < a → g i < N) → (∀ i j, i < j → j < a → g i ≠ g j) → cons T T' a g →
  (gos N T T' a g → ∀ im', lbl im' a g → K 1 (nI (msk g a)) im') → (¬ gos N T T' a g → ∀ im', lbl im' a g → K 0 (nI (msk g a)) im') → pX3_canGoOn d (nI (msk g a)) im sh st (nI N) c (nI N) c' (nI a) K
theorem msk8 {g : Nat → Nat} {a N : Nat} (hN : N ≤ 8) (h : ∀ i, i < a → g i < N) : msk g a < 256 := Nat.lt_of_lt_of_le (msk_lt h) (p2_8 hN)
theorem s_goWith {N : Nat} {T T' : Nat → Nat → Nat} {c c' sh st : Nat → Int32} {d a b : Nat} {im : Nat → Int32} {g : Nat → Nat} {K : Int32 → Int32 → (Nat → Int32) → Prop} (hN : N ≤ 8) (hcg : CG N T T' c c' sh st d (a + 1)) (ha : a < N) (hb : b < N) (him : lbl im (a + 1) (updN g a b)) (hg1 : ∀ i, i < a → g i < N) (hg2 : ∀ i j, i < j → j < a → g i ≠ g j) (hnb : (msk g a).testBit b = false) (hfit : cons T T' (a + 1) (updN g a b))
    (h1 : gos N T T' (a + 1) (updN g a b) → ∀ im', lbl im' (a + 1) (updN g a b) → K 1 (nI (msk g a)) im') (h0 : ¬ gos N T T' (a + 1) (updN g a b) → ∀ im', lbl im' (a + 1) (updN g a b) → K 0 (nI (msk g a)) im') : pX3_canGoOnWith d (nI (msk g a)) im sh st (nI N) c (nI N) c' (nI a) (nI b) K := by
  have hm8 := msk8 hN hg1
  refine ⟨vp_in_nI (by omega) (by decide), ?_⟩
  rw [nI_clamp (by omega), nI_1]
  have e1 : nI (msk g a) ||| ((1 : Int32) <<< (nI b &&& 31)) = nI (msk (updN g a b) (a + 1)) := by rw [n_bit (by omega), fa_or, msk_up]
  have e2 : nI (msk (updN g a b) (a + 1)) &&& ((1 : Int32) <<< (nI b &&& 31) ^^^ (-1 : Int32)) = nI (msk g a) := by rw [← msk_up]; exact n_clr b (by omega) _ hm8 hnb
  rw [e1]
  have him2 : lbl (upd im a (nI b)) (a + 1) (updN g a b) := lbl_updA (lbl_lo him)
  refine hcg _ _ _ him2 (fun i hi => ?_) (fun i j hij hj => ?_) hfit (fun q im' hl => ⟨Or.inr rfl, ?_⟩) (fun q im' hl => ⟨Or.inl rfl, ?_⟩)
  · unfold updN
    by_cases e : i = a
    · rw [if_pos e]
      exact hb
    · rw [if_neg e]
      exact hg1 i (by omega)
  · unfold updN
    rw [if_neg (by omega)]
    by_cases e : j = a
    · rw [if_pos e]
      intro q
      have : (msk g a).testBit b = true := msk_bit.mpr ⟨i, by omega, q⟩
      rw [this] at hnb
      cases hnb
    · rw [if_neg e]
      exact hg2 i j hij (by omega)
  · rw [e2]
    exact h1 q im' hl
  · rw [e2]
    exact h0 q im' hl
theorem s_canGoOn {N : Nat} {T T' : Nat → Nat → Nat} {c c' sh st : Nat → Int32} (ht : tab c N T) (ht' : tab c' N T') (hN : N ≤ 8) (hsh : lbl sh N (sgn T N)) (hst : lbl st N (sgn T' N)) : ∀ d a, a ≤ N → N - a < d → CG N T T' c c' sh st d a := by
  intro d
  induction d with
  | zero => exact fun a _ h => absurd h (Nat.not_lt_zero _)
  | succ d ih =>
    intro a ha hd im g K him hg1 hg2 hcons h1 h0
    have hT := tab_T ht
    have hm8 := msk8 hN hg1
    refine pk_lt a N (fun hlt => ?_) (fun hge => ?_)
    · refine lpW3_for N (fun j x4 us f => x4 = nI j ∧ us = nI (msk g a) ∧ lbl f a g ∧ ¬ ∃ f, iso N T T' f ∧ (∀ i, i < a → f i = g i) ∧ f a < j) 0 (Nat.zero_le _) ⟨nI_0.symm, rfl, him, fun ⟨_, _, _, q⟩ => absurd q (Nat.not_lt_zero _)⟩ ?_
      rintro j hj x4 us f ⟨rfl, rfl, hf, hno⟩ R hR
      refine pk_le N j (fun hle => ?_) (fun hlt2 => ?_)
      · refine z0 (h0 (fun ⟨f0, q1, q2⟩ => hno ⟨f0, q1, q2, ?_⟩) f hf)
        have := q1.1.1 a hlt
        omega
      · have next : ∀ f', lbl f' a g → (∀ f0, iso N T T' f0 → (∀ i, i < a → f0 i = g i) → f0 a = j → False) → R (nI j + 1) (nI (msk g a)) f' := fun f' hf' hj0 =>
          hR hlt2 _ _ _ ⟨nI_1 j, rfl, hf', fun ⟨f0, q1, q2, q3⟩ => by
            rcases Nat.lt_or_ge (f0 a) j with q | q
            · exact hno ⟨f0, q1, q2, q⟩
            · exact hj0 f0 q1 q2 (by omega)⟩
        rw [n_tb (by omega) (by omega)]
        cases eb : (msk g a).testBit j with
        | true =>
          refine ⟨fun _ => next f hf (fun f0 q1 q2 q3 => ?_), fun q => absurd q (by decide)⟩
          obtain ⟨i, hi, ei⟩ := msk_bit.mp eb
          rw [← q2 i hi, ← q3] at ei
          have := pm_inj q1.1 (by omega) hlt ei
          omega
        | false =>
          refine ⟨fun q => absurd rfl q, fun _ => s_fits ht ht' hN hm8 hlt hlt2 hg1 hf hsh hst (fun hfit im' him' => y1 ?_) (fun hfit im' him' => y0 (next im' him' (fun f0 q1 q2 q3 => hfit (q3 ▸ fit_need hT q1 hlt q2))))⟩
          refine s_goWith hN (ih (a + 1) (by omega) (by omega)) hlt hlt2 him' hg1 hg2 eb (fit_cons hfit) (fun q im2 him2 => y1 (z1 (h1 ?_ im2 (lbl_lo him2)))) (fun q im2 him2 => y0 (next im2 (lbl_lo him2) (fun f0 q1 q2 q3 => q ⟨f0, q1, fun i hi => ?_⟩)))
          · obtain ⟨f0, q1, q2⟩ := q
            refine ⟨f0, q1, fun i hi => ?_⟩
            rw [q2 i (by omega)]
            unfold updN
            rw [if_neg (by omega)]
          · unfold updN
            by_cases e : i = a
            · rw [if_pos e, e, q3]
            · rw [if_neg e, q2 i (by omega)]
    · have e : a = N := by omega
      subst e
      exact z1 (h1 ⟨g, ⟨⟨hg1, hg2⟩, fun x y hx hy => hcons x y hx hy (hT x y hx hy)⟩, fun _ _ => rfl⟩ im him)
/-! the model's side -/
theorem s_makes {M N o : Nat} {T T' : Nat → Nat → Nat} {f : Nat → Nat} {fc mt p : Nat → Int32} {x2 : Int32} {K : Int32 → Prop} (ht : tab mt N T) (ht' : tab (fun j => p (o + j)) N T') (hN : N ≤ 8) (hM : o + 64 ≤ M) (hM2 : M < 2 ^ 30) (hx2 : x2 = nI o) (hf : lbl fc N f) (hpm : pm N f)
    (h1 : iso N T T' f → K 1) (h0 : ¬ iso N T T' f → K 0) : pX11_makes M (nI N) fc mt p x2 K := by
  subst hx2
  refine lpW1_for N (fun i x => x = nI i ∧ ∀ a b, a < i → b < N → f (T a b) = T' (f a) (f b)) 0 (Nat.zero_le _) ⟨nI_0.symm, fun a b ha => absurd ha (Nat.not_lt_zero _)⟩ ?_
  rintro i hi x ⟨rfl, hI⟩ R hR
  refine pk_le N i (fun hle => ?_) (fun hlt => ?_)
  · have e : i = N := by omega
    subst e
    exact z1 (h1 ⟨hpm, hI⟩)
  · refine lpW1_for N (fun j x => x = nI j ∧ ∀ b, b < j → f (T i b) = T' (f i) (f b)) 0 (Nat.zero_le _) ⟨nI_0.symm, fun b hb => absurd hb (Nat.not_lt_zero _)⟩ ?_
    rintro j hj x ⟨rfl, hJ⟩ R2 hR2
    refine pk_le N j (fun hle2 => ?_) (fun hlt2 => ?_)
    · have e : j = N := by omega
      subst e
      refine hR hlt _ ⟨nI_1 i, fun a b ha hb => ?_⟩
      rcases Nat.lt_or_ge a i with q | q
      · exact hI a b q hb
      · rw [show a = i by omega]
        exact hJ b hb
    · have f1 := hpm.1 i hlt
      have f2 := hpm.1 j hlt2
      have bt := (ht i j hlt hlt2).2
      obtain ⟨et, bt'⟩ := ht' _ _ f1 f2
      have f3 := hpm.1 _ bt
      have ei : nI o + 8 * nI (f i) + nI (f j) = nI (o + (8 * f i + f j)) := by
        rw [show (8 : Int32) = nI 8 from rfl, pk_mul, nI_add, nI_add, Nat.add_assoc]
      rw [nI_clamp (by omega), nI_clamp (by omega), hf i hlt, hf j hlt2, ei]
      refine ⟨vp_in_nI (by omega) (by decide), vp_in_nI (by omega) (by decide), vp_in_nI (by omega) (by omega), t_by ht hN hlt hlt2 ⟨vp_in_nI (by omega) (by decide), ?_⟩⟩
      rw [nI_clamp (by omega), nI_clamp (by omega), hf _ bt, show p (o + (8 * f i + f j)) = _ from et]
      refine pk_eq (T' (f i) (f j)) (f (T i j)) (fun e => hR2 hlt2 _ ⟨nI_1 j, fun b hb => ?_⟩) (fun e => z0 (h0 (fun q => e (q.2 i j hlt hlt2).symm)))
      rcases Nat.lt_or_ge b j with q | q
      · exact hJ b q
      · rw [show b = j by omega]
        exact e.symm
theorem op_like {cn : Int32} {cc : Nat → Int32} {kn : Nat → Int32} {kc : Nat → Nat → Int32} {us : Int32} {im sh st : Nat → Int32} {thr mn : Int32} {mf mk mm mt : Nat → Int32} {x1 : Int32} (h : RelT cn cc mn mt) (hk : RelK kn kc mm mk) :
    pX10_like cn cc kn kc us im sh st x1 (fun r _ _ _ _ => pX11_like thr mn mf mk mm mt x1 (fun r' _ _ => r = r')) := by
  obtain ⟨N, T, h1, h8, rfl, rfl, hx, hm⟩ := h
  refine s_isFilled (relK_x hk) (fun k m hk4 e1 e2 m1 m8 => y1' ?_) (fun hno => y0' (s_isKept (relK_m hk) (fun k m a b c d e => (relK_no hk hno k m a b c d e).elim) (fun _ => y0' rfl)))
  subst e1
  obtain ⟨m', T', hm'8, q1, q2, t1, t2⟩ := hk k hk4
  have em : m' = m := nI_inj (by omega) (by omega) (by rw [← q1, e2])
  subst em
  have hT := tab_T hx
  have fM : 0 < fac N := fac_pos N
  have fl := fac_le N h8
  have mod : ∀ r, (gos N T T' 0 (fun i => i) ∧ N = m' → r = 1) → (¬ (gos N T T' 0 (fun i => i) ∧ N = m') → r = 0) → pX11_like thr (nI N) mf mk mm mt (nI k) (fun r' _ _ => r = r') := by
    intro r hr1 hr0
    refine s_isKept (relK_m hk) (fun k' mm' a b c d e => y1' ?_) (fun hno => (hno k m' hk4 rfl q2 m1 m8).elim)
    refine lpW2_for (fac N) (fun p x2 f => x2 = nI p ∧ (N = m' → ∀ q, q < p → ¬ iso N T T' (pdg N q))) 0 (Nat.zero_le _) ⟨nI_0.symm, fun _ q hq => absurd hq (Nat.not_lt_zero _)⟩ ?_
    rintro p hp x2 f ⟨rfl, hI⟩ R hR
    refine s_factorial h8 ?_ 10 (by omega)
    refine pk_le (fac N) p (fun hle => ?_) (fun hlt => ?_)
    · refine hr0 (fun ⟨⟨f0, w1, _⟩, w2⟩ => ?_)
      have w3 := rnk_lt w1.1
      exact hI w2 (rnk N f0) (by omega) (iso_cong hT (fun i hi => (pdg_rnk h8 w1.1 i hi).symm) w1)
    · refine ⟨vp_in_nI (by omega) (by decide), ?_⟩
      rw [nI_clamp (by omega), q2]
      refine pk_ne m' N (by omega) (by omega) (fun e => ?_) (fun e => hr0 (fun w => e w.2.symm))
      subst e
      refine s_permutation (by omega) (by decide) h1 h8 hlt ?_
      have hpm := pdg_pm h8 hlt
      refine s_makes (o := 64 * k) hm t2 h8 (by omega) (by decide) (by rw [show (64 : Int32) = nI 64 from rfl, pk_mul]) (fun i hi => fa_fill_in hi) hpm (fun w => y1 (hr1 ⟨⟨_, w, fun i hi => absurd hi (Nat.not_lt_zero _)⟩, rfl⟩)) (fun w => y0 (hR hlt _ _ ⟨nI_1 p, fun _ q hq => ?_⟩))
      rcases Nat.lt_or_ge q p with z | z
      · exact hI rfl q z
      · rw [show q = p by omega]
        exact w
  refine ⟨vp_in_nI (by omega) (by decide), ?_⟩
  rw [nI_clamp (by omega), e2]
  refine s_signs hx h8 (fun sh' hsh => s_signs t1 hm'8 (fun st' hst => ?_))
  refine pk_ne N m' (by omega) (by omega) (fun e => ?_) (fun e => z0 (y0 (mod 0 (fun w => absurd w.2 e) (fun _ => rfl))))
  subst e
  exact s_canGoOn hx t1 h8 hsh hst 10 0 (Nat.zero_le _) (by omega) im (fun i => i) _ (fun i hi => absurd hi (Nat.not_lt_zero _)) (fun i hi => absurd hi (Nat.not_lt_zero _)) (fun i j _ hj => absurd hj (Nat.not_lt_zero _)) (fun c d hc => absurd hc (Nat.not_lt_zero _))
    (fun w im' _ => y1 (z1 (y1 (mod 1 (fun _ => rfl) (fun w2 => absurd ⟨w, rfl⟩ w2))))) (fun w im' _ => y0 (z0 (y0 (mod 0 (fun w2 => absurd w2.1 w) (fun _ => rfl)))))
