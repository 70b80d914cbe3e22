/-! The bench's list: packed racks, found once. -/
def pk4 (f : Nat → Nat) : Nat → Nat
  | 0 => 0
  | n + 1 => pk4 f n ||| f n * 4 ^ n
theorem pk4_lt {f : Nat → Nat} : ∀ {n : Nat}, (∀ i, i < n → f i < 4) → pk4 f n < 4 ^ n
  | 0, _ => Nat.zero_lt_one
  | n + 1, h => by
    have h1 := pk4_lt (f := f) (n := n) (fun i hi => h i (by omega))
    have h2 : f n * 4 ^ n < 4 ^ (n + 1) := by
      rw [Nat.pow_succ, Nat.mul_comm]
      exact Nat.mul_lt_mul_of_pos_left (h n (by omega)) (Nat.pow_pos (by decide))
    have e : ∀ k, 4 ^ k = 2 ^ (2 * k) := fun k => by rw [Nat.pow_mul]
    have h3 : pk4 f n < 4 ^ (n + 1) := Nat.lt_of_lt_of_le h1 (Nat.pow_le_pow_right (by decide) (by omega))
    rw [e (n + 1)] at h2 h3 ⊢
    exact Nat.or_lt_two_pow h3 h2
theorem pk4_add {f : Nat → Nat} {n : Nat} (h : ∀ i, i < n → f i < 4) : pk4 f (n + 1) = pk4 f n + f n * 4 ^ n := by
  have h1 := pk4_lt h
  rw [show (4 : Nat) ^ n = 2 ^ (2 * n) from by rw [Nat.pow_mul]] at h1
  show pk4 f n ||| f n * 4 ^ n = _
  rw [show (4 : Nat) ^ n = 2 ^ (2 * n) from by rw [Nat.pow_mul], Nat.or_comm, Nat.mul_comm, ← Nat.two_pow_add_eq_or_of_lt h1, Nat.add_comm]
theorem pk4_at {f : Nat → Nat} : ∀ {n i : Nat}, (∀ i, i < n → f i < 4) → i < n → pk4 f n / 4 ^ i % 4 = f i
  | 0, i, _, hi => absurd hi (Nat.not_lt_zero _)
  | n + 1, i, h, hi => by
    have h' : ∀ i, i < n → f i < 4 := fun i hi => h i (by omega)
    rw [pk4_add h']
    rcases Nat.lt_or_ge i n with q | q
    · have e : f n * 4 ^ n = 4 ^ i * (f n * 4 ^ (n - i - 1) * 4) := by
        rw [show n = i + (n - i - 1) + 1 by omega, Nat.pow_succ, Nat.pow_add]
        simp only [Nat.add_sub_cancel, show i + (n - i - 1) + 1 - i - 1 = n - i - 1 by omega]
        rw [show n - i - 1 = n - i - 1 from rfl]
        ac_rfl
      rw [e, Nat.add_mul_div_left _ _ (Nat.pow_pos (by decide)), Nat.add_mul_mod_self_right]
      exact pk4_at h' q
    · have ei : i = n := by omega
      subst ei
      rw [Nat.add_mul_div_right _ _ (Nat.pow_pos (by decide)), Nat.div_eq_of_lt (pk4_lt h'), Nat.zero_add]
      exact Nat.mod_eq_of_lt (h i (by omega))
/-- the cells of a table in one row -/
def fl (n : Nat) (T : Nat → Nat → Nat) (u : Nat) : Nat := T (u / n) (u % n)
theorem fl_at {n a b : Nat} {T : Nat → Nat → Nat} (hb : b < n) : fl n T (a * n + b) = T a b := by
  unfold fl
  rw [(ix_div hb).1, (ix_div hb).2]
def pkT (n : Nat) (T : Nat → Nat → Nat) : Nat := pk4 (fl n T) (n * n)
theorem fl_lt {n : Nat} {T : Nat → Nat → Nat} (hn : n ≤ 4) (hT : ∀ a b, a < n → b < n → T a b < n) : ∀ u, u < n * n → fl n T u < 4 := by
  intro u hu
  have h0 : 0 < n := by
    rcases Nat.eq_zero_or_pos n with q | q
    · rw [q] at hu
      omega
    · exact q
  have := hT (u / n) (u % n) ((Nat.div_lt_iff_lt_mul h0).mpr hu) (Nat.mod_lt _ h0)
  unfold fl
  omega
theorem pkT_lt {n : Nat} {T : Nat → Nat → Nat} (hn : n ≤ 4) (hT : ∀ a b, a < n → b < n → T a b < n) : pkT n T < 2 ^ 32 := by
  have h := pk4_lt (fl_lt hn hT)
  have h16 : n * n ≤ 16 := Nat.mul_le_mul hn hn
  have h2 : (4 : Nat) ^ (n * n) ≤ 4 ^ 16 := Nat.pow_le_pow_right (by decide) h16
  unfold pkT
  omega
theorem usl : ∀ k, k < 16 → (((nI (2 * k)).toUInt32 &&& Int32.toUInt32 31).toBitVec % 32).toNat = 2 * k := by decide +kernel
theorem s_cell {n a b : Nat} {T : Nat → Nat → Nat} {K : Int32 → Prop} (hn : n ≤ 4) (hT : ∀ a b, a < n → b < n → T a b < n) (ha : a < n) (hb : b < n) (h : K (nI (T a b))) : pX2_cell (nI n) (nI (pkT n T)) (nI a) (nI b) K := by
  have h16 : n * n ≤ 16 := Nat.mul_le_mul hn hn
  have hi := ix_lt ha hb
  have hlt := pkT_lt hn hT
  unfold pX2_cell
  rw [pk_mul, nI_add, show (2 : Int32) = nI 2 from rfl, pk_mul, pk_ushrN hlt _ (2 * (a * n + b)) (usl _ (by omega))]
  rw [show nI (pkT n T / 2 ^ (2 * (a * n + b))) &&& 3 = nI (pkT n T / 2 ^ (2 * (a * n + b)) % 4) from pk_andN (n := pkT n T / 2 ^ (2 * (a * n + b))) (Nat.lt_of_le_of_lt (Nat.div_le_self _ _) hlt) 2 rfl]
  rw [show (2 : Nat) ^ (2 * (a * n + b)) = 4 ^ (a * n + b) from by rw [Nat.pow_mul]]
  unfold pkT
  rw [pk4_at (fl_lt hn hT) hi, fl_at hb]
  exact h
def qdB (n : Nat) (T : Nat → Nat → Nat) : Bool := al (fun a => T a a == a) n
theorem s_isQuandle {n : Nat} {T : Nat → Nat → Nat} {K : Int32 → Prop} (hn : n ≤ 4) (hT : ∀ a b, a < n → b < n → T a b < n) (h : K (bI (qdB n T))) : pX2_isQuandle (nI n) (nI (pkT n T)) K := by
  refine lpW1_for n (fun i x => x = nI i ∧ al (fun a => T a a == a) i = true) 0 (Nat.zero_le _) ⟨nI_0.symm, rfl⟩ ?_
  rintro i hi x ⟨rfl, hI⟩ R hR
  unfold qdB at h
  refine pk_le n i (fun hle => ?_) (fun hlt => ?_)
  · have e : i = n := by omega
    subst e
    rw [hI] at h
    exact z1 h
  · have b := hT i i hlt hlt
    refine s_cell hn hT hlt hlt ?_
    refine pk_eq (T i i) i (fun e => hR hlt _ ⟨nI_1 i, ?_⟩) (fun e => z0 ?_)
    · rw [al_s, hI]
      simp [e]
    · rw [al_no (p := fun a => T a a == a) (i := i) (by simp [e]) hlt] at h
      exact h
/-! the state of the list of n after the tables below K -/
def LSX (n K : Nat) (rk : Nat → Nat → Int32) (sz' : Nat → Int32) : Prop := sz' n = nI (fb_ct (gdB n) K) ∧ ∀ k, k < K → gdB n k = true → rk n (fb_ct (gdB n) k) = nI (pkT n (Tk n k))
theorem ct_skip {p : Nat → Bool} {K0 K1 : Nat} (h : K0 ≤ K1) (hn : ∀ k, K0 ≤ k → k < K1 → p k = false) : fb_ct p K1 = fb_ct p K0 := by
  obtain ⟨d, rfl⟩ : ∃ d, K1 = K0 + d := ⟨K1 - K0, by omega⟩
  have hz : fb_ct (fun k => p (K0 + k)) d = 0 := fb_ct_zero.mpr (fun k hk => hn (K0 + k) (by omega) (by omega))
  rw [fb_ct_split, hz, Nat.add_zero]
theorem LSX_skip {n K0 K1 : Nat} {rk : Nat → Nat → Int32} {sz' : Nat → Int32} (h : K0 ≤ K1) (hn : ∀ k, K0 ≤ k → k < K1 → gdB n k = false) (hs : LSX n K0 rk sz') : LSX n K1 rk sz' := by
  refine ⟨by rw [hs.1, ct_skip h hn], fun k hk hg => ?_⟩
  rcases Nat.lt_or_ge k K0 with q | q
  · exact hs.2 k q hg
  · rw [hn k q hk] at hg
    cases hg
/-- the first rows -/
def PT (n a c r b : Nat) : Nat := pdg n (c / fac n ^ (a - 1 - r) % fac n) b
theorem PT_lt {n a c : Nat} (hn : n ≤ 8) {r b : Nat} (hb : b < n) : PT n a c r b < n := pdg_lt hn (Nat.mod_lt _ (fac_pos n)) hb
theorem PT_Tk {n a c k r b : Nat} (ha : a ≤ n) (hr : r < a) (hk : k / fac n ^ (n - a) = c) : Tk n k r b = PT n a c r b := by
  unfold Tk PT dgt
  rw [← hk, Nat.div_div_eq_div_mul, ← Nat.pow_add, show n - a + (a - 1 - r) = n - 1 - r by omega]
theorem PT_next {n a c p r b : Nat} (hr : r < a) (hp : p < fac n) : PT n (a + 1) (c * fac n + p) r b = PT n a c r b := by
  unfold PT
  have e : a + 1 - 1 - r = (a - 1 - r) + 1 := by omega
  rw [e, Nat.pow_succ, Nat.mul_comm (fac n ^ _), ← Nat.div_div_eq_div_mul, (ix_div hp).1]
theorem PT_new {n a c p b : Nat} (hp : p < fac n) : PT n (a + 1) (c * fac n + p) a b = pdg n p b := by
  unfold PT
  rw [show a + 1 - 1 - a = 0 by omega, Nat.pow_zero, Nat.div_one, (ix_div hp).2]
def rwOk (tc : Nat → Int32) (n m : Nat) (R : Nat → Nat → Nat) : Prop := ∀ r b, r < m → b < n → tc (8 * r + b) = nI (R r b)
def agP (n : Nat) (R : Nat → Nat → Nat) (l : Nat) : Prop := ∀ x y, x ≤ l → y ≤ l → R x y ≤ l → ∀ z, z < n → R x (R y z) = R (R x y) (R x z)
theorem t_row {tc : Nat → Int32} {n m r b : Nat} {R : Nat → Nat → Nat} {K : Int32 → Prop} (h : rwOk tc n m R) (hn : n ≤ 8) (hm : m ≤ 8) (hr : r < m) (hb : b < n) (hk : K (nI (R r b))) : pX7_turned tc (nI r) (nI b) K :=
  e_turned (by omega) (by omega) (by rw [h r b hr hb]; exact hk)
theorem s_agrees {tc : Nat → Int32} {n l : Nat} {R : Nat → Nat → Nat} {K : Int32 → Prop} (h : rwOk tc n (l + 1) R) (hn : n ≤ 8) (hl : l < n) (hR : ∀ r b, b < n → R r b < n) (h1 : agP n R l → K 1) (h0 : ¬ agP n R l → K 0) : pX2_agreesUpTo (nI n) tc (nI l) K := by
  refine lpW1_for (l + 1) (fun i x => x = nI i ∧ ∀ x y, x < i → y ≤ l → R x y ≤ l → ∀ z, z < n → R x (R y z) = R (R x y) (R x z)) 0 (Nat.zero_le _) ⟨nI_0.symm, fun x y hx => absurd hx (Nat.not_lt_zero _)⟩ ?_
  rintro i hi x ⟨rfl, hI⟩ Q hQ
  refine pk_lt l i (fun hlt => z1 (h1 (fun x y hx hy => hI x y (by omega) hy))) (fun hge => ?_)
  refine lpW1_for (l + 1) (fun j x => x = nI j ∧ ∀ y, y < j → R i y ≤ l → ∀ z, z < n → R i (R y z) = R (R i y) (R i z)) 0 (Nat.zero_le _) ⟨nI_0.symm, fun y hy => absurd hy (Nat.not_lt_zero _)⟩ ?_
  rintro j hj x ⟨rfl, hJ⟩ Q2 hQ2
  refine pk_lt l j (fun hlt => ?_) (fun hge2 => ?_)
  · refine hQ (by omega) _ ⟨nI_1 i, fun x y hx hy => ?_⟩
    rcases Nat.lt_or_ge x i with q | q
    · exact hI x y q hy
    · rw [show x = i by omega]
      exact hJ y (by omega)
  · have r1 := hR i j (by omega)
    refine t_row h hn (by omega) (by omega) (by omega) ?_
    have next : (R i j ≤ l → ∀ z, z < n → R i (R j z) = R (R i j) (R i z)) → Q2 (nI j + 1) := fun hh => hQ2 (by omega) _ ⟨nI_1 j, fun y hy => by
      rcases Nat.lt_or_ge y j with q | q
      · exact hJ y q
      · rw [show y = j by omega]
        exact hh⟩
    refine lpW1_for n (fun k x => x = nI k ∧ ∀ z, z < k → R i (R j z) = R (R i j) (R i z)) 0 (Nat.zero_le _) ⟨nI_0.symm, fun z hz => absurd hz (Nat.not_lt_zero _)⟩ ?_
    rintro k hk x ⟨rfl, hK⟩ Q3 hQ3
    refine pk_le n k (fun hle => next (fun _ z hz => hK z (by omega))) (fun hlt => pk_lt l (R i j) (fun hgt => next (fun q => by omega)) (fun hle2 => ?_))
    have r2 := hR j k hlt
    have r3 := hR i _ r2
    have r4 := hR i k hlt
    have r5 := hR (R i j) _ r4
    refine t_row h hn (by omega) (by omega) hlt (t_row h hn (by omega) (by omega) r2 (t_row h hn (by omega) (by omega) hlt (t_row h hn (by omega) (by omega) r4 ?_)))
    refine pk_eq _ _ (fun e => hQ3 hlt _ ⟨nI_1 k, fun z hz => ?_⟩) (fun e => z0 (h0 (fun q => e (q i j hge hge2 hle2 k hlt))))
    rcases Nat.lt_or_ge z k with q | q
    · exact hK z q
    · rw [show z = k by omega]
      exact e
theorem s_keepTrial {n k : Nat} {rk : Nat → Nat → Int32} {sz' tc : Nat → Int32} {K : (Nat → Nat → Int32) → (Nat → Int32) → Prop} (h1 : 1 ≤ n) (h4 : n ≤ 4) (hk : k < fac n ^ n) (hg : gdB n k = true) (ht : tab tc n (Tk n k)) (hs : LSX n k rk sz') (h : ∀ rk2 sz2, LSX n (k + 1) rk2 sz2 → (∀ n', n' ≠ n → sz2 n' = sz' n' ∧ rk2 n' = rk n') → K rk2 sz2) : pX2_keepTrial rk sz' (nI n) tc K := by
  have hT := tab_T ht
  have h16 : n * n ≤ 16 := Nat.mul_le_mul h4 h4
  have hc1 : fb_ct (gdB n) (k + 1) = fb_ct (gdB n) k + 1 := by rw [fb_ct_succ, hg]; rfl
  have hc2 : fb_ct (gdB n) (k + 1) ≤ tot n := fb_ct_mono _ (by omega)
  have hc3 := tot_le h1 h4
  refine lpW2_for n (fun i x2 x3 => x3 = nI i ∧ x2 = nI (pk4 (fl n (Tk n k)) (i * n))) 0 (Nat.zero_le _) ⟨nI_0.symm, by rw [Nat.zero_mul]; rfl⟩ ?_
  rintro i hi x2 x3 ⟨rfl, rfl⟩ R hR
  refine pk_le n i (fun hle => ?_) (fun hlt => ?_)
  · have e : i = n := by omega
    subst e
    rw [nI_clamp (by omega), hs.1]
    refine ⟨vp_in_nI (by omega) (by decide), fun q => absurd q (nI_ge (b := 19) (by omega) (by decide)), fun _ => ⟨vp_in_nI (by omega) (by decide), vp_in_nI (by omega) (by decide), vp_in_nI (by omega) (by decide), vp_in_nI (by omega) (by decide), vp_in_nI (by omega) (by decide), ?_⟩⟩
    rw [nI_clamp (by omega)]
    refine h _ _ ⟨?_, fun k' hk' hg' => ?_⟩ (fun n' hn' => ⟨pk_un hn', va_up_ne _ _ hn'⟩)
    · rw [pk_us, hc1]
      exact nI_1 _
    · rw [va_up_self]
      rcases Nat.lt_or_ge k' k with q | q
      · have : fb_ct (gdB i) k' ≠ fb_ct (gdB i) k := fun z => by
          have := fb_ct_kth_one hg' hg z
          omega
        rw [pk_un this]
        exact hs.2 k' q hg'
      · rw [show k' = k by omega, pk_us]
        rfl
  · refine lpW2_for n (fun j x2 x4 => x4 = nI j ∧ x2 = nI (pk4 (fl n (Tk n k)) (i * n + j))) 0 (Nat.zero_le _) ⟨nI_0.symm, rfl⟩ ?_
    rintro j hj x2 x4 ⟨rfl, rfl⟩ R2 hR2
    refine pk_le n j (fun hle2 => ?_) (fun hlt2 => ?_)
    · have e : j = n := by omega
      subst e
      refine hR hlt _ _ ⟨nI_1 i, ?_⟩
      rw [Nat.add_mul, Nat.one_mul]
    · have bt := hT i j hlt hlt2
      have hij := ix_lt hlt hlt2
      refine t_turned ht (by omega) hlt hlt2 (hR2 hlt2 _ _ ⟨nI_1 j, ?_⟩)
      have hp4 : (2 : Nat) ^ (2 * (i * n + j)) ≤ 2 ^ 30 := Nat.pow_le_pow_right (by decide) (by omega)
      have hmul : Tk n k i j * 2 ^ (2 * (i * n + j)) ≤ 3 * 2 ^ 30 := Nat.mul_le_mul (by omega) hp4
      rw [pk_mul, nI_add, show (2 : Int32) = nI 2 from rfl, pk_mul, pk_shlN _ (2 * (i * n + j)) (n_sl _ (by omega)) (by omega), fa_or]
      show _ = nI (pk4 (fl n (Tk n k)) (i * n + j) ||| fl n (Tk n k) (i * n + j) * 4 ^ (i * n + j))
      rw [fl_at hlt2, show (2 : Nat) ^ (2 * (i * n + j)) = 4 ^ (i * n + j) from by rw [Nat.pow_mul]]
