/-! Every row that has each number once has its number, and numbers tell rows apart. -/
def pm (m : Nat) (f : Nat → Nat) : Prop := (∀ i, i < m → f i < m) ∧ ∀ i j, i < j → j < m → f i ≠ f j
theorem pm_inj {m : Nat} {f : Nat → Nat} (h : pm m f) {i j : Nat} (hi : i < m) (hj : j < m) (e : f i = f j) : i = j := by
  rcases Nat.lt_trichotomy i j with q | q | q
  · exact absurd e (h.2 i j q hj)
  · exact q
  · exact absurd e.symm (h.2 j i q hi)
theorem pm_ofF {m : Nat} {f : Nat → Nat} (h1 : ∀ i, i < m → f i < m) (h2 : ∀ i j, i < m → j < m → f i = f j → i = j) : pm m f :=
  ⟨h1, fun i j hij hj e => by have := h2 i j (by omega) hj e; omega⟩
theorem pm_onto {m : Nat} {f : Nat → Nat} (h : pm m f) {v : Nat} (hv : v < m) : ∃ i, i < m ∧ f i = v := fb_onto h.1 h.2 hv
theorem pdg_pm {m num : Nat} (hm : m ≤ 8) (hn : num < fac m) : pm m (pdg m num) := (pst_ok hm hn m (Nat.le_refl _)).2
theorem sm_zero (n : Nat) : fb_sm (fun _ => 0) n = 0 := by
  have := fb_sm_const 0 n
  simpa using this
theorem sm_fib {f g : Nat → Nat} {n : Nat} : ∀ {k : Nat}, (∀ i, i < k → f i < n) → fb_sm (fun i => g (f i)) k = fb_sm (fun v => g v * fb_ct (fun i => f i == v) k) n
  | 0, _ => by
    have : (fun v => g v * fb_ct (fun i => f i == v) 0) = fun _ => 0 := funext fun v => by simp [fb_ct]
    rw [this, sm_zero]
    rfl
  | k + 1, h => by
    have ih := sm_fib (f := f) (g := g) (n := n) (k := k) (fun i hi => h i (by omega))
    have hu := fb_sm_upd (fun _ => 0) (g (f k)) (h k (by omega))
    rw [sm_zero] at hu
    rw [fb_sm_succ, ih]
    have e : fb_sm (fun v => g v * fb_ct (fun i => f i == v) (k + 1)) n = fb_sm (fun v => g v * fb_ct (fun i => f i == v) k + if v = f k then g (f k) else 0) n := by
      refine fb_sm_cong (fun v hv => ?_)
      rw [fb_ct_succ]
      by_cases ev : v = f k
      · rw [if_pos ev, ev]
        simp [Nat.mul_add]
      · have : ¬ f k = v := fun z => ev z.symm
        rw [if_neg ev]
        simp [this]
    rw [e, fb_sm_add]
    omega
theorem ct_one {f : Nat → Nat} {n v : Nat} (h : pm n f) (hv : v < n) : fb_ct (fun i => f i == v) n = 1 := by
  obtain ⟨i, hi, e⟩ := pm_onto h hv
  have hu : fb_ct (fun k => if k = i then true else false) n + 0 = fb_ct (fun _ => false) n + 1 := fb_ct_upd (fun _ => false) true hi
  have hz : fb_ct (fun _ => false) n = 0 := fb_ct_zero.mpr (fun _ _ => rfl)
  have hc : fb_ct (fun i => f i == v) n = fb_ct (fun k => if k = i then true else false) n := by
    refine fb_ct_cong (fun k hk => ?_)
    by_cases ek : k = i
    · rw [if_pos ek, ek]
      simp [e]
    · rw [if_neg ek]
      have : ¬ f k = v := fun z => ek (pm_inj h hk hi (by rw [z, e]))
      simp [this]
  rw [hc]
  omega
theorem sm_perm {f g : Nat → Nat} {n : Nat} (h : pm n f) : fb_sm (fun i => g (f i)) n = fb_sm g n := by
  rw [sm_fib h.1]
  refine fb_sm_cong (fun v hv => ?_)
  rw [ct_one h hv, Nat.mul_one]
theorem ct_sm (p : Nat → Bool) : ∀ n, fb_ct p n = fb_sm (fun i => if p i then 1 else 0) n
  | 0 => rfl
  | n + 1 => by rw [fb_ct_succ, fb_sm_succ, ct_sm p n]
theorem ct_perm {f : Nat → Nat} {p : Nat → Bool} {n : Nat} (h : pm n f) : fb_ct (fun i => p (f i)) n = fb_ct p n := by
  rw [ct_sm, ct_sm]
  exact sm_perm (g := fun v => if p v then 1 else 0) h
theorem ct_inj {P : Nat → Bool} {φ : Nat → Nat} {m : Nat} : ∀ {n : Nat} {Q : Nat → Bool}, (∀ i, i < n → P i = true → φ i < m ∧ Q (φ i) = true) → (∀ i j, i < n → j < n → P i = true → P j = true → φ i = φ j → i = j) → fb_ct P n ≤ fb_ct Q m
  | 0, _, _, _ => Nat.zero_le _
  | n + 1, Q, h1, h2 => by
    rw [fb_ct_succ]
    cases e : P n with
    | false =>
      have := ct_inj (P := P) (φ := φ) (m := m) (n := n) (Q := Q) (fun i hi => h1 i (by omega)) (fun i j hi hj => h2 i j (by omega) (by omega))
      simpa using this
    | true =>
      obtain ⟨q1, q2⟩ := h1 n (by omega) e
      have ih := ct_inj (P := P) (φ := φ) (m := m) (n := n) (Q := fun k => if k = φ n then false else Q k) (fun i hi hp => by
        obtain ⟨r1, r2⟩ := h1 i (by omega) hp
        have : ¬ φ i = φ n := fun z => by
          have := h2 i n (by omega) (by omega) hp e z
          omega
        exact ⟨r1, by rw [if_neg this]; exact r2⟩) (fun i j hi hj => h2 i j (by omega) (by omega))
      have hu := fb_ct_upd Q false q1
      rw [q2] at hu
      simp only [if_true, Bool.false_eq_true, if_false, Nat.add_zero] at hu
      show fb_ct P n + 1 ≤ fb_ct Q m
      omega
/-- how many numbers below f k come later -/
def lh (f : Nat → Nat) (k : Nat) : Nat := uns (msk f k) (f k)
theorem not_used {m k : Nat} {f : Nat → Nat} (h : pm m f) (hk : k < m) : (msk f k).testBit (f k) = false := by
  rw [← Bool.not_eq_true, msk_bit]
  rintro ⟨i, hi, e⟩
  exact h.2 i k hi hk e
theorem uns_all {m k : Nat} {f : Nat → Nat} (h : pm m f) (hk : k ≤ m) : uns (msk f k) m = m - k := by
  have hc := ct_bits (f := f) (m := m) (k := k) (fun i hi => h.1 i (by omega)) (fun i j hij hj => h.2 i j hij (by omega))
  have := fb_ct_not (fun v => (msk f k).testBit v) m
  rw [hc] at this
  unfold uns
  omega
theorem lh_lt {m k : Nat} {f : Nat → Nat} (h : pm m f) (hk : k < m) : lh f k < m - k := by
  have e := uns_s (msk f k) (f k)
  rw [not_used h hk] at e
  have h2 := fb_ct_mono (fun i => !(msk f k).testBit i) (show f k + 1 ≤ m from h.1 k hk)
  have h3 := uns_all h (Nat.le_of_lt hk)
  unfold uns at e h3
  unfold lh uns
  simp at e
  omega
/-- what the last j places are worth -/
def tlr (m : Nat) (f : Nat → Nat) : Nat → Nat
  | 0 => 0
  | j + 1 => lh f (m - 1 - j) * fac j + tlr m f j
def rnk (m : Nat) (f : Nat → Nat) : Nat := tlr m f m
theorem tlr_lt {m : Nat} {f : Nat → Nat} (h : pm m f) : ∀ j, j ≤ m → tlr m f j < fac j
  | 0, _ => show 0 < 1 by decide
  | j + 1, hj => by
    have ih := tlr_lt h j (by omega)
    have hl := lh_lt h (show m - 1 - j < m by omega)
    have hl2 : lh f (m - 1 - j) ≤ j := by omega
    have h3 := Nat.mul_le_mul_right (fac j) hl2
    show lh f (m - 1 - j) * fac j + tlr m f j < (j + 1) * fac j
    rw [Nat.add_mul, Nat.one_mul]
    omega
theorem rnk_lt {m : Nat} {f : Nat → Nat} (h : pm m f) : rnk m f < fac m := tlr_lt h m (Nat.le_refl _)
theorem msk_cong {f g : Nat → Nat} : ∀ {n : Nat}, (∀ i, i < n → f i = g i) → msk f n = msk g n
  | 0, _ => rfl
  | n + 1, h => by rw [msk, msk, msk_cong (fun i hi => h i (by omega)), h n (by omega)]
theorem tlr_cong {m : Nat} {f g : Nat → Nat} (h : ∀ i, i < m → f i = g i) : ∀ j, j ≤ m → tlr m f j = tlr m g j
  | 0, _ => rfl
  | j + 1, hj => by
    rw [tlr, tlr, tlr_cong h j (by omega)]
    unfold lh
    rw [msk_cong (fun i hi => h i (by omega)), h _ (by omega)]
theorem rnk_cong {m : Nat} {f g : Nat → Nat} (h : ∀ i, i < m → f i = g i) : rnk m f = rnk m g := tlr_cong h m (Nat.le_refl _)
theorem pst_rnk {m : Nat} {f : Nat → Nat} (hm : m ≤ 8) (h : pm m f) : ∀ k, k ≤ m → pst m (rnk m f) k = (tlr m f (m - k), msk f k) ∧ ∀ i, i < k → pdg m (rnk m f) i = f i
  | 0, _ => ⟨rfl, fun i hi => absurd hi (Nat.not_lt_zero _)⟩
  | k + 1, hk => by
    obtain ⟨h1, h2⟩ := pst_rnk hm h k (by omega)
    have ej : m - k = (m - 1 - k) + 1 := by omega
    have et : tlr m f (m - k) = lh f k * fac (m - 1 - k) + tlr m f (m - 1 - k) := by
      rw [ej, tlr, show m - 1 - (m - 1 - k) = k by omega]
    have hlt := tlr_lt h (m - 1 - k) (by omega)
    have hq : tlr m f (m - k) / fac (m - 1 - k) = lh f k := by
      rw [et, Nat.mul_comm, Nat.mul_add_div (fac_pos _), Nat.div_eq_of_lt hlt, Nat.add_zero]
    have hr : tlr m f (m - k) % fac (m - 1 - k) = tlr m f (m - 1 - k) := by
      rw [et, Nat.mul_comm, Nat.mul_add_mod, Nat.mod_eq_of_lt hlt]
    have hd : pdg m (rnk m f) k = f k := by
      unfold pdg
      rw [h1]
      show nun (msk f k) (tlr m f (m - k) / fac (m - 1 - k)) = f k
      rw [hq]
      obtain ⟨g1, g2, g3, -⟩ := nun_hit hm (u := msk f k) (skip := lh f k) (by rw [uns_all h (by omega)]; exact lh_lt h (by omega))
      exact fb_ct_kth_one (p := fun i => !(msk f k).testBit i) (by simp [g2]) (by simp [not_used h (show k < m by omega)]) g3
    have hnn : nun (msk f k) (lh f k) = f k := by
      have := hd
      unfold pdg at this
      rw [h1] at this
      simp only [hq] at this
      exact this
    refine ⟨?_, fun i hi => ?_⟩
    · rw [pst, h1]
      simp only [hq, hr, hnn]
      rw [show m - (k + 1) = m - 1 - k by omega]
      rfl
    · rcases Nat.lt_or_ge i k with q | q
      · exact h2 i q
      · rw [show i = k by omega]
        exact hd
theorem pdg_rnk {m : Nat} {f : Nat → Nat} (hm : m ≤ 8) (h : pm m f) : ∀ i, i < m → pdg m (rnk m f) i = f i := (pst_rnk hm h m (Nat.le_refl _)).2
theorem rnk_pdg {m num : Nat} (hm : m ≤ 8) (hn : num < fac m) : rnk m (pdg m num) = num := by
  have key : ∀ j, j ≤ m → (pst m num (m - j)).1 = tlr m (pdg m num) j := by
    intro j
    induction j with
    | zero =>
      intro _
      have := (pst_ok hm hn m (Nat.le_refl _)).1
      rw [Nat.sub_self] at this
      rw [Nat.sub_zero]
      simp [fac] at this
      rw [this]
      rfl
    | succ j ih =>
      intro hj
      have i1 := ih (by omega)
      have hk : m - (j + 1) < m := by omega
      obtain ⟨-, -, g3, -⟩ := nun_hit hm (pst_hit hm hn hk)
      have e1 : m - 1 - (m - (j + 1)) = j := by omega
      have e2 : m - 1 - j = m - (j + 1) := by omega
      rw [e1] at g3
      have e3 : pst m num (m - j) = pst m num (m - (j + 1) + 1) := by rw [show m - j = m - (j + 1) + 1 by omega]
      rw [e3, pst] at i1
      simp only [e1] at i1
      rw [tlr, ← i1, e2]
      unfold lh
      rw [← pst_2]
      have e4 : pdg m num (m - (j + 1)) = nun (pst m num (m - (j + 1))).2 ((pst m num (m - (j + 1))).1 / fac j) := by
        unfold pdg
        rw [e1]
      rw [e4, g3, Nat.mul_comm]
      exact (Nat.div_add_mod _ _).symm
  have := key m (Nat.le_refl _)
  rw [Nat.sub_self] at this
  exact this.symm
theorem pdg_one {m p q : Nat} (hm : m ≤ 8) (hp : p < fac m) (hq : q < fac m) (h : ∀ i, i < m → pdg m p i = pdg m q i) : p = q := by
  rw [← rnk_pdg hm hp, ← rnk_pdg hm hq]
  exact rnk_cong h
theorem ct_low (p : Nat → Bool) {a n : Nat} (h : a ≤ n) : fb_ct (fun v => decide (v < a) && p v) n = fb_ct p a := by
  obtain ⟨d, rfl⟩ : ∃ d, n = a + d := ⟨n - a, by omega⟩
  rw [fb_ct_split]
  have e1 : fb_ct (fun v => decide (v < a) && p v) a = fb_ct p a := fb_ct_cong (fun k hk => by simp [hk])
  have e2 : fb_ct (fun k => decide (a + k < a) && p (a + k)) d = 0 := fb_ct_zero.mpr (fun k _ => by
    have : ¬ a + k < a := by omega
    simp [this])
  rw [e1, e2, Nat.add_zero]
theorem lh_ct {m k : Nat} {f : Nat → Nat} (h : pm m f) (hk : k < m) : fb_ct (fun l => decide (k < l) && decide (f l < f k)) m = lh f k := by
  have e1 : fb_ct (fun l => decide (k < l) && decide (f l < f k)) m = fb_ct (fun l => (fun v => decide (v < f k) && !(msk f k).testBit v) (f l)) m := by
    refine fb_ct_cong (fun l hl => ?_)
    by_cases e : f l < f k
    · by_cases e2 : k < l
      · have : ¬ (msk f k).testBit (f l) = true := by
          rw [msk_bit]
          rintro ⟨i, hi, ei⟩
          have := pm_inj h (by omega) hl ei
          omega
        simp [e, e2, this]
      · have hlk : l ≠ k := fun z => by rw [z] at e; omega
        have : (msk f k).testBit (f l) = true := msk_bit.mpr ⟨l, by omega, rfl⟩
        simp [e, e2, this]
    · simp [e]
  rw [e1, ct_perm (p := fun v => decide (v < f k) && !(msk f k).testBit v) h, ct_low _ (Nat.le_of_lt (h.1 k hk))]
  rfl
theorem s_numberOf {M m : Nat} {p : Nat → Int32} {f : Nat → Nat} {K : Int32 → Prop} (hM : m ≤ M) (hM2 : M < 2 ^ 31) (hm : m ≤ 8) (hp : lbl p m f) (h : pm m f) (hK : K (nI (rnk m f))) : pX11_numberOf M p (nI m) K := by
  have hsum : fb_sm (fun k => lh f k * fac (m - 1 - k)) m = rnk m f := by
    have key : ∀ j, j ≤ m → fb_sm (fun k => lh f k * fac (m - 1 - k)) (m - j) + tlr m f j = fb_sm (fun k => lh f k * fac (m - 1 - k)) m := by
      intro j
      induction j with
      | zero => intro _; rfl
      | succ j ih =>
        intro hj
        rw [← ih (by omega), show m - j = m - (j + 1) + 1 by omega, fb_sm_succ, tlr, show m - 1 - j = m - (j + 1) by omega, show m - 1 - (m - (j + 1)) = j by omega]
        omega
    have := key m (Nat.le_refl _)
    rw [Nat.sub_self] at this
    rw [← this]
    show fb_sm _ 0 + _ = _
    rw [show fb_sm (fun k => lh f k * fac (m - 1 - k)) 0 = 0 from rfl, Nat.zero_add]
    rfl
  refine lpW2_for m (fun i x2 x3 => x3 = nI i ∧ x2 = nI (fb_sm (fun k => lh f k * fac (m - 1 - k)) i)) 0 (Nat.zero_le _) ⟨nI_0.symm, nI_0.symm⟩ ?_
  rintro i hi x2 x3 ⟨rfl, rfl⟩ R hR
  refine pk_le m i (fun hle => ?_) (fun hlt => ?_)
  · have e : i = m := by omega
    subst e
    rw [hsum]
    exact hK
  · refine lpW2_for m (fun j x4 x5 => x5 = nI j ∧ i < j ∧ x4 = nI (fb_ct (fun l => decide (i < l) && decide (f l < f i)) j)) (i + 1) hlt ⟨nI_1 i, Nat.lt_succ_self _, ?_⟩ ?_
    · have : fb_ct (fun l => decide (i < l) && decide (f l < f i)) (i + 1) = 0 := fb_ct_zero.mpr (fun k hk => by
        have : ¬ i < k := by omega
        simp [this])
      rw [this]
      rfl
    · rintro j hj x4 x5 ⟨rfl, hij, rfl⟩ R2 hR2
      have bi := h.1 i hlt
      refine pk_le m j (fun hle2 => ?_) (fun hlt2 => ?_)
      · have e : j = m := by omega
        subst e
        have e1 : nI j - 1 - nI i = nI (j - 1 - i) := by
          have : nI j - 1 = nI (j - 1) := pk_sub (a := j) (b := 1) (by omega)
          rw [this, pk_sub (by omega)]
        rw [e1]
        refine s_factorial (by omega) ?_ 10 (by omega)
        refine hR hlt _ _ ⟨nI_1 i, ?_⟩
        rw [pk_mul, nI_add, fb_sm_succ, lh_ct h hlt]
      · have bj := h.1 j hlt2
        refine ⟨vp_in_nI (by omega) hM2, vp_in_nI (by omega) hM2, ?_⟩
        rw [nI_clamp (by omega), nI_clamp (by omega), hp i hlt, hp j hlt2]
        refine pk_le (f i) (f j) (fun e => hR2 hlt2 _ _ ⟨nI_1 j, by omega, ?_⟩) (fun e => hR2 hlt2 _ _ ⟨nI_1 j, by omega, ?_⟩)
        · have : ¬ f j < f i := by omega
          rw [fb_ct_succ]
          simp [this]
        · rw [fb_ct_succ]
          simp only [hij, e, decide_true, Bool.and_self, if_true]
          exact nI_1 _
