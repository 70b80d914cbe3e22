/-! Permutations by their numbers: both sides make the same ones. -/
def fac : Nat → Nat
  | 0 => 1
  | n + 1 => (n + 1) * fac n
theorem fac_pos : ∀ n, 0 < fac n
  | 0 => by decide
  | n + 1 => Nat.mul_pos (Nat.succ_pos n) (fac_pos n)
theorem fac_le : ∀ n, n ≤ 8 → fac n ≤ 40320 := by decide
theorem fct_fac : ∀ n, n ≤ 8 → fct n = nI (fac n) := by decide +kernel
theorem n_tb {u i : Nat} (hu : u < 2 ^ 31) (hi : i < 32) : (nI u >>> (nI i &&& 31)) &&& 1 = nI (if u.testBit i then 1 else 0) := by
  rw [n_has hu hi]
  congr 1
  rw [Nat.testBit_eq_decide_div_mod_eq]
  have : u / 2 ^ i % 2 < 2 := Nat.mod_lt _ (by decide)
  by_cases h : u / 2 ^ i % 2 = 1
  · simp [h]
  · simp only [h, decide_false]
    simp
    omega
/-- numbers below n that aren't in u -/
def uns (u n : Nat) : Nat := fb_ct (fun i => !u.testBit i) n
def nunF (u skip i : Nat) : Option Nat := if u.testBit i = false ∧ uns u i = skip then some i else none
def nun (u skip : Nat) : Nat := (findO (nunF u skip) 8).getD 0
theorem uns_s (u i : Nat) : uns u (i + 1) = uns u i + if u.testBit i then 0 else 1 := by
  unfold uns
  rw [fb_ct_succ]
  cases u.testBit i <;> rfl
theorem s_unused {u skip : Nat} {K : Int32 → Prop} (hu : u < 2 ^ 31) (hs : skip < 2 ^ 31) (h : K (nI (nun u skip))) : pX5_unusedNumber (nI u) (nI skip) K := by
  refine lpW2_for 8 (fun i x2 x3 => x3 = nI i ∧ x2 = nI (skip - uns u i) ∧ uns u i ≤ skip ∧ findO (nunF u skip) i = none) 0 (Nat.zero_le _) ⟨nI_0.symm, rfl, Nat.zero_le _, rfl⟩ ?_
  rintro i hi x2 x3 ⟨rfl, rfl, hle, hI⟩ R hR
  refine pk_le 8 i (fun h8 => ?_) (fun hlt => ?_)
  · have e : i = 8 := by omega
    subst e
    unfold nun at h
    rw [hI] at h
    exact h
  · rw [n_tb hu (by omega)]
    cases eb : u.testBit i with
    | true =>
      refine ⟨fun _ => hR hlt _ _ ⟨nI_1 i, ?_, ?_, ?_⟩, fun q => absurd q (by decide)⟩
      · rw [uns_s, eb]; rfl
      · rw [uns_s, eb]; exact hle
      · rw [findO_step hI]; simp [nunF, eb]
    | false =>
      refine ⟨fun q => absurd rfl q, fun _ => ?_⟩
      refine ⟨fun q => ?_, fun q => ?_⟩
      · have hlt2 : uns u i < skip := by
          rcases Nat.lt_or_ge (uns u i) skip with q2 | q2
          · exact q2
          · rw [show skip - uns u i = 0 by omega] at q
            exact absurd rfl q
        refine hR hlt _ _ ⟨nI_1 i, ?_, ?_, ?_⟩
        · rw [sb_m1 (by omega), uns_s, eb]
          rfl
        · rw [uns_s, eb]
          simp
          omega
        · rw [findO_step hI]
          simp [nunF, eb]
          omega
      · have e0 : uns u i = skip := by
          have := nI_inj (a := skip - uns u i) (b := 0) (by omega) (by decide) q
          omega
        have e1 : findO (nunF u skip) 8 = some i := findO_hit hI (by simp [nunF, eb, e0]) 8 hlt
        unfold nun at h
        rw [e1] at h
        exact h
theorem nun_hit {u skip m : Nat} (hm : m ≤ 8) (h : skip < uns u m) : nun u skip < m ∧ u.testBit (nun u skip) = false ∧ uns u (nun u skip) = skip ∧ ∀ v, v < nun u skip → nunF u skip v = none := by
  obtain ⟨i, hi, hp, hc⟩ := fb_ct_kth h
  have hb : u.testBit i = false := by simpa using hp
  have hf : nunF u skip i = some i := by
    unfold nunF
    rw [if_pos ⟨hb, hc⟩]
  cases e : findO (nunF u skip) 8 with
  | none =>
    have := findO_none.mp e i (by omega)
    rw [hf] at this
    cases this
  | some r =>
    obtain ⟨j, hj, h1, h2⟩ := findO_some e
    have er : nun u skip = r := by unfold nun; rw [e]; rfl
    have hrj : r = j := by
      unfold nunF at h1
      split at h1
      · exact (Option.some.inj h1).symm
      · cases h1
    subst hrj
    rw [er]
    have hd : u.testBit r = false ∧ uns u r = skip := by
      unfold nunF at h1
      split at h1
      · assumption
      · cases h1
    have hle : r ≤ i := by
      refine Nat.le_of_not_lt fun hlt => ?_
      have := h2 i hlt
      rw [hf] at this
      cases this
    exact ⟨by omega, hd.1, hd.2, h2⟩
/-- what is left of the number, and what is used, ahead of digit k -/
def pst (m num : Nat) : Nat → Nat × Nat
  | 0 => (num, 0)
  | k + 1 => ((pst m num k).1 % fac (m - 1 - k), (pst m num k).2 ||| 2 ^ nun (pst m num k).2 ((pst m num k).1 / fac (m - 1 - k)))
def pdg (m num k : Nat) : Nat := nun (pst m num k).2 ((pst m num k).1 / fac (m - 1 - k))
theorem pst_2 (m num : Nat) : ∀ k, (pst m num k).2 = msk (pdg m num) k
  | 0 => rfl
  | k + 1 => by
    show (pst m num k).2 ||| 2 ^ pdg m num k = msk (pdg m num) k ||| 2 ^ pdg m num k
    rw [pst_2 m num k]
theorem ct_bits {f : Nat → Nat} {m : Nat} : ∀ {k : Nat}, (∀ i, i < k → f i < m) → (∀ i j, i < j → j < k → f i ≠ f j) → fb_ct (fun v => (msk f k).testBit v) m = k
  | 0, _, _ => by
    rw [show (fun v => (msk f 0).testBit v) = fun _ => false from funext fun v => by simp [msk]]
    exact fb_ct_zero.mpr (fun _ _ => rfl)
  | k + 1, h1, h2 => by
    have ih := ct_bits (f := f) (m := m) (k := k) (fun i hi => h1 i (by omega)) (fun i j hij hj => h2 i j hij (by omega))
    have e : (fun v => (msk f (k + 1)).testBit v) = fun v => if v = f k then true else (msk f k).testBit v := by
      funext v
      rw [msk, Nat.testBit_or, Nat.testBit_two_pow]
      by_cases hv : v = f k
      · subst hv; simp
      · rw [if_neg hv]
        have : ¬ f k = v := fun q => hv q.symm
        simp [this]
    have hu := fb_ct_upd (fun v => (msk f k).testBit v) true (i := f k) (n := m) (h1 k (by omega))
    have hno : (msk f k).testBit (f k) = false := by
      rw [← Bool.not_eq_true, msk_bit]
      rintro ⟨i, hi, ei⟩
      exact h2 i k hi (by omega) ei
    rw [e]
    rw [hno, ih] at hu
    exact hu
theorem pst_ok {m num : Nat} (hm : m ≤ 8) (hn : num < fac m) : ∀ k, k ≤ m → (pst m num k).1 < fac (m - k) ∧ (∀ i, i < k → pdg m num i < m) ∧ (∀ i j, i < j → j < k → pdg m num i ≠ pdg m num j)
  | 0, _ => ⟨hn, fun i hi => absurd hi (Nat.not_lt_zero _), fun i j _ hj => absurd hj (Nat.not_lt_zero _)⟩
  | k + 1, hk => by
    obtain ⟨h1, h2, h3⟩ := pst_ok hm hn k (by omega)
    have ef : fac (m - k) = (m - k) * fac (m - 1 - k) := by
      rw [show m - k = (m - 1 - k) + 1 by omega]
      rfl
    have hsk : (pst m num k).1 / fac (m - 1 - k) < m - k := by
      rw [ef] at h1
      exact (Nat.div_lt_iff_lt_mul (fac_pos _)).mpr h1
    have hc := ct_bits (f := pdg m num) (m := m) (k := k) h2 h3
    have hu : uns (pst m num k).2 m = m - k := by
      have := fb_ct_not (fun v => (msk (pdg m num) k).testBit v) m
      rw [hc] at this
      unfold uns
      rw [pst_2]
      omega
    obtain ⟨g1, g2, -, -⟩ := nun_hit hm (u := (pst m num k).2) (skip := (pst m num k).1 / fac (m - 1 - k)) (by rw [hu]; exact hsk)
    refine ⟨?_, fun i hi => ?_, fun i j hij hj => ?_⟩
    · show (pst m num k).1 % fac (m - 1 - k) < fac (m - (k + 1))
      rw [show m - (k + 1) = m - 1 - k by omega]
      exact Nat.mod_lt _ (fac_pos _)
    · rcases Nat.lt_or_ge i k with q | q
      · exact h2 i q
      · rw [show i = k by omega]
        exact g1
    · rcases Nat.lt_or_ge j k with q | q
      · exact h3 i j hij q
      · have ej : j = k := by omega
        subst ej
        intro e
        rw [pst_2] at g2
        have : (msk (pdg m num) j).testBit (pdg m num j) = true := msk_bit.mpr ⟨i, hij, e⟩
        have g3 : (msk (pdg m num) j).testBit (pdg m num j) = false := by
          have := g2
          rw [← pst_2] at this
          unfold pdg
          rw [pst_2] at this ⊢
          exact this
        rw [this] at g3
        cases g3
theorem pst_hit {m num k : Nat} (hm : m ≤ 8) (hn : num < fac m) (hk : k < m) : (pst m num k).1 / fac (m - 1 - k) < uns (pst m num k).2 m := by
  obtain ⟨h1, h2, h3⟩ := pst_ok hm hn k (by omega)
  have ef : fac (m - k) = (m - k) * fac (m - 1 - k) := by
    rw [show m - k = (m - 1 - k) + 1 by omega]
    rfl
  have hsk : (pst m num k).1 / fac (m - 1 - k) < m - k := by
    rw [ef] at h1
    exact (Nat.div_lt_iff_lt_mul (fac_pos _)).mpr h1
  have hc := ct_bits (f := pdg m num) (m := m) (k := k) h2 h3
  have := fb_ct_not (fun v => (msk (pdg m num) k).testBit v) m
  rw [hc] at this
  unfold uns
  rw [pst_2]
  omega
/-! three bits a digit -/
def pck (f : Nat → Nat) : Nat → Nat
  | 0 => 0
  | n + 1 => pck f n ||| f n * 8 ^ n
theorem pck_lt {f : Nat → Nat} : ∀ {n : Nat}, (∀ i, i < n → f i < 8) → pck f n < 8 ^ n
  | 0, _ => Nat.zero_lt_one
  | n + 1, h => by
    have h1 := pck_lt (f := f) (n := n) (fun i hi => h i (by omega))
    have h2 : f n * 8 ^ n < 8 ^ (n + 1) := by
      rw [Nat.pow_succ, Nat.mul_comm]
      exact Nat.mul_lt_mul_of_pos_left (h n (by omega)) (Nat.pow_pos (by decide))
    have e : ∀ k, 8 ^ k = 2 ^ (3 * k) := fun k => by rw [Nat.pow_mul]
    have h3 : pck f n < 8 ^ (n + 1) := Nat.lt_of_lt_of_le h1 (Nat.pow_le_pow_right (by decide) (by omega))
    rw [e (n + 1)] at h2 h3 ⊢
    exact Nat.or_lt_two_pow h3 h2
theorem pck_add {f : Nat → Nat} {n : Nat} (h : ∀ i, i < n → f i < 8) : pck f (n + 1) = pck f n + f n * 8 ^ n := by
  have h1 := pck_lt h
  rw [show (8 : Nat) ^ n = 2 ^ (3 * n) from by rw [Nat.pow_mul]] at h1
  show pck f n ||| f n * 8 ^ n = _
  rw [show (8 : Nat) ^ n = 2 ^ (3 * n) from by rw [Nat.pow_mul], Nat.or_comm, Nat.mul_comm, ← Nat.two_pow_add_eq_or_of_lt h1, Nat.add_comm]
theorem pck_at {f : Nat → Nat} : ∀ {n i : Nat}, (∀ i, i < n → f i < 8) → i < n → pck f n / 8 ^ i % 8 = f i
  | 0, i, _, hi => absurd hi (Nat.not_lt_zero _)
  | n + 1, i, h, hi => by
    have h' : ∀ i, i < n → f i < 8 := fun i hi => h i (by omega)
    rw [pck_add h']
    rcases Nat.lt_or_ge i n with q | q
    · have e : f n * 8 ^ n = 8 ^ i * (f n * 8 ^ (n - i - 1) * 8) := by
        rw [show n = i + (n - i - 1) + 1 by omega, Nat.pow_succ, Nat.pow_add]
        simp only [Nat.add_sub_cancel, show i + (n - i - 1) + 1 - i - 1 = n - i - 1 by omega]
        rw [show n - i - 1 = n - i - 1 from rfl]
        ac_rfl
      rw [e, Nat.add_mul_div_left _ _ (Nat.pow_pos (by decide)), Nat.add_mul_mod_self_right]
      exact pck_at h' q
    · have ei : i = n := by omega
      subst ei
      rw [Nat.add_mul_div_right _ _ (Nat.pow_pos (by decide)), Nat.div_eq_of_lt (pck_lt h'), Nat.zero_add]
      exact Nat.mod_eq_of_lt (h i (by omega))
theorem n_3 {i : Nat} : (3 : Int32) * nI i = nI (3 * i) := pk_mul 3 i
theorem s_image {p i : Nat} {K : Int32 → Prop} (hp : p < 2 ^ 31) (hi : i < 8) (h : K (nI (p / 8 ^ i % 8))) : pX5_image (nI p) (nI i) K := by
  unfold pX5_image
  rw [n_3, n_shr hp (by omega), show (2 : Nat) ^ (3 * i) = 8 ^ i from by rw [Nat.pow_mul]]
  rw [show nI (p / 8 ^ i) &&& 7 = nI (p / 8 ^ i % 8) from pk_andN (n := p / 8 ^ i) (Nat.lt_of_le_of_lt (Nat.div_le_self _ _) (by omega)) 3 rfl]
  exact h
theorem p8_le {i : Nat} (hi : i < 8) : 8 ^ i ≤ 2097152 := Nat.le_trans (Nat.pow_le_pow_right (by decide) (show i ≤ 7 by omega)) (by decide)
theorem s_with {p i v : Nat} {K : Int32 → Prop} (hi : i < 8) (hv : v < 8) (h : K (nI (p ||| v * 8 ^ i))) : pX5_with (nI p) (nI i) (nI v) K := by
  unfold pX5_with
  have h8 := p8_le hi
  have hlt : v * 8 ^ i < 2 ^ 31 := Nat.lt_of_le_of_lt (Nat.mul_le_mul (show v ≤ 7 by omega) h8) (by decide)
  rw [n_3, pk_shlN (nI (3 * i) &&& 31) (3 * i) (n_sl _ (by omega)) (by rw [show (2 : Nat) ^ (3 * i) = 8 ^ i from by rw [Nat.pow_mul]]; omega), fa_or, show (2 : Nat) ^ (3 * i) = 8 ^ i from by rw [Nat.pow_mul]]
  exact h
theorem s_numbered {m num : Nat} {K : Int32 → Prop} (hm1 : 1 ≤ m) (hm : m ≤ 8) (hn : num < fac m) (h : K (nI (pck (pdg m num) m))) : pX5_numbered (nI m) (nI num) K := by
  have h40 := fac_le m hm
  refine lpW4_for m (fun k x2 x3 x4 x5 => x5 = nI k ∧ x2 = nI (pck (pdg m num) k) ∧ x3 = nI (pst m num k).2 ∧ x4 = nI (pst m num k).1) 0 (Nat.zero_le _) ⟨nI_0.symm, nI_0.symm, nI_0.symm, rfl⟩ ?_
  rintro k hk x2 x3 x4 x5 ⟨rfl, rfl, rfl, rfl⟩ R hR
  refine pk_le m k (fun hle => ?_) (fun hlt => ?_)
  · have e : k = m := by omega
    subst e
    exact h
  · obtain ⟨g1, g2, g3⟩ := pst_ok hm hn k (by omega)
    have hfl := fac_le (m - k) (by omega)
    have hdl := (nun_hit hm (pst_hit hm hn hlt)).1
    have hu : (pst m num k).2 < 2 ^ 8 := by rw [pst_2]; exact msk_lt (fun i hi => Nat.lt_of_lt_of_le (g2 i hi) hm)
    have e1 : nI m - 1 - nI k = nI (m - 1 - k) := by
      rw [show nI m - 1 = nI (m - 1) from pk_sub (a := m) (b := 1) hm1, pk_sub (by omega)]
    have hfp := fac_pos (m - 1 - k)
    have hfl2 := fac_le (m - 1 - k) (by omega)
    rw [e1, nI_clamp (by omega), fct_fac _ (by omega)]
    have hne : ¬ nI (fac (m - 1 - k)) = 0 := nI_ne0 hfp (by omega)
    refine ⟨vp_in_nI (by omega) (by decide), hne, ?_⟩
    rw [pk_div (by omega) hfp (by omega)]
    refine s_unused (by omega) (Nat.lt_of_le_of_lt (Nat.div_le_self _ _) (by omega)) ⟨hne, ?_⟩
    refine s_with (by omega) (by omega) (hR hlt _ _ _ _ ⟨nI_1 k, rfl, ?_, ?_⟩)
    · rw [n_bit (by omega), fa_or]
      rfl
    · rw [← pk_div (by omega) hfp (by omega), pk_rem (by omega) hfp (by omega)]
      rfl
theorem s_factorial {n : Nat} {K : Int32 → Prop} (hn : n ≤ 8) (h : K (nI (fac n))) : ∀ d, n < d → pX11_factorial d (nI n) K := by
  intro d hd
  induction d generalizing n K with
  | zero => exact absurd hd (Nat.not_lt_zero _)
  | succ d ih =>
    show pX11_factorial_b (pX11_factorial d) (nI n) K
    refine pk_le 2 n (fun hle => ?_) (fun hlt => ?_)
    · rw [show nI n - 1 = nI (n - 1) from pk_sub (a := n) (b := 1) (by omega)]
      refine ih (n := n - 1) (by omega) ?_ (by omega)
      rw [pk_mul, show n * fac (n - 1) = fac n from by rw [show n = (n - 1) + 1 by omega]; rfl]
      exact h
    · have e : fac n = 1 := by
        rcases (show n = 0 ∨ n = 1 by omega) with rfl | rfl <;> rfl
      rw [e] at h
      exact h
theorem s_permutation {N m num : Nat} {p : Nat → Int32} {K : (Nat → Int32) → Prop} (hN : m ≤ N) (hN2 : N < 2 ^ 31) (hm1 : 1 ≤ m) (hm : m ≤ 8) (hn : num < fac m) (h : K (fa_fill (fun i => nI (pdg m num i)) p m)) : pX11_permutation N p (nI m) (nI num) K := by
  have h40 := fac_le m hm
  refine lpW4_for m (fun k x3 x4 x5 f => x5 = nI k ∧ x4 = nI (pst m num k).2 ∧ x3 = nI (pst m num k).1 ∧ f = fa_fill (fun i => nI (pdg m num i)) p k) 0 (Nat.zero_le _) ⟨nI_0.symm, nI_0.symm, rfl, (fa_fill_0 _ _).symm⟩ ?_
  rintro k hk x3 x4 x5 f ⟨rfl, rfl, rfl, rfl⟩ R hR
  refine pk_le m k (fun hle => ?_) (fun hlt => ?_)
  · have e : k = m := by omega
    subst e
    exact h
  · obtain ⟨g1, g2, g3⟩ := pst_ok hm hn k (by omega)
    have hfl := fac_le (m - k) (by omega)
    obtain ⟨hdl, hd2, hd3, hd4⟩ := nun_hit hm (pst_hit hm hn hlt)
    have hu : (pst m num k).2 < 2 ^ 8 := by rw [pst_2]; exact msk_lt (fun i hi => Nat.lt_of_lt_of_le (g2 i hi) hm)
    have e1 : nI m - 1 - nI k = nI (m - 1 - k) := by
      rw [show nI m - 1 = nI (m - 1) from pk_sub (a := m) (b := 1) hm1, pk_sub (by omega)]
    have hfp := fac_pos (m - 1 - k)
    have hfl2 := fac_le (m - 1 - k) (by omega)
    rw [e1]
    refine s_factorial (by omega) ?_ 10 (by omega)
    have hne : ¬ nI (fac (m - 1 - k)) = 0 := nI_ne0 hfp (by omega)
    refine ⟨hne, hne, ?_⟩
    rw [pk_rem (by omega) hfp (by omega), pk_div (by omega) hfp (by omega)]
    generalize hsk : (pst m num k).1 / fac (m - 1 - k) = skip at hdl hd2 hd3 hd4
    have hsk2 : skip < 2 ^ 31 := by rw [← hsk]; exact Nat.lt_of_le_of_lt (Nat.div_le_self _ _) (by omega)
    have hpd : pdg m num k = nun (pst m num k).2 skip := by rw [← hsk]; rfl
    refine lpW2_for (nun (pst m num k).2 skip) (fun v x7 x8 => x8 = nI v ∧ x7 = nI (skip - uns (pst m num k).2 v) ∧ uns (pst m num k).2 v ≤ skip) 0 (Nat.zero_le _) ⟨nI_0.symm, rfl, Nat.zero_le _⟩ ?_
    rintro v hv x7 x8 ⟨rfl, rfl, hle⟩ R2 hR2
    have goes : v < nun (pst m num k).2 skip → uns (pst m num k).2 (v + 1) ≤ skip → pX11_permutation_55 N R R2 K (nI m) (nI ((pst m num k).1 % fac (m - 1 - k))) (nI (pst m num k).2) (nI k) (fa_fill (fun i => nI (pdg m num i)) p k) (nI (skip - uns (pst m num k).2 v)) (nI v) := by
      intro hlt2 hle2
      unfold pX11_permutation_55
      rw [n_tb (by omega) (by omega)]
      rw [uns_s] at hle2
      cases eb : (pst m num k).2.testBit v with
      | true =>
        rw [eb] at hle2
        refine ⟨fun q => absurd rfl q, fun _ => hR2 hlt2 _ _ ⟨nI_1 v, ?_, by rw [uns_s, eb]; exact hle2⟩⟩
        rw [uns_s, eb, show (0 : Int32) = nI 0 from rfl, pk_sub (Nat.zero_le _)]
        rfl
      | false =>
        rw [eb] at hle2
        simp at hle2
        refine ⟨fun _ => hR2 hlt2 _ _ ⟨nI_1 v, ?_, by rw [uns_s, eb]; simp; omega⟩, fun q => absurd q (by decide)⟩
        rw [uns_s, eb, show (1 : Int32) = nI 1 from rfl, pk_sub (by omega)]
        rfl
    show (_ → _) ∧ (_ → _)
    rw [n_tb (by omega) (by omega)]
    cases eb : (pst m num k).2.testBit v with
    | true =>
      have hlt2 : v < nun (pst m num k).2 skip := by
        rcases Nat.lt_or_ge v (nun (pst m num k).2 skip) with q | q
        · exact q
        · rw [show v = nun (pst m num k).2 skip by omega, hd2] at eb
          cases eb
      exact ⟨fun _ => goes hlt2 (by rw [uns_s, eb]; exact hle), fun q => absurd rfl q⟩
    | false =>
      refine ⟨fun q => absurd q (by decide), fun _ => ?_⟩
      refine pk_le (skip - uns (pst m num k).2 v) 0 (fun h0 => ?_) (fun h0 => ?_)
      · have ev : v = nun (pst m num k).2 skip := by
          rcases Nat.lt_or_ge v (nun (pst m num k).2 skip) with q | q
          · have := hd4 v q
            unfold nunF at this
            rw [if_pos ⟨eb, by omega⟩] at this
            cases this
          · omega
        refine ⟨vp_in_nI (by omega) hN2, hR hlt _ _ _ _ ⟨nI_1 k, ?_, ?_, ?_⟩⟩
        · rw [n_bit (by omega), fa_or, ev, ← hpd]
          rfl
        · rfl
        · rw [nI_clamp (by omega), ev, ← hpd]
          exact fa_fill_succ (fun i => nI (pdg m num i)) p k
      · refine goes ?_ (by rw [uns_s, eb]; simp; omega)
        rcases Nat.lt_or_ge v (nun (pst m num k).2 skip) with q | q
        · exact q
        · rw [show v = nun (pst m num k).2 skip by omega, hd3] at h0
          omega
