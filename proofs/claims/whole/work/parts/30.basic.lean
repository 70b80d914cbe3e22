/-! Numbers, sets of bits, searches, tables: the words in which both sides are said. -/
theorem n_sl : ∀ n, n < 32 → ((nI n &&& 31).toBitVec.smod 32).toNat = n := by decide +kernel
theorem n_bit {k : Nat} (h : k < 31) : (1 : Int32) <<< (nI k &&& 31) = nI (2 ^ k) := by
  have := pk_shlN (n := 1) (nI k &&& 31) k (n_sl k (by omega)) (by rw [Nat.one_mul]; exact Nat.pow_lt_pow_right (by decide) (by omega))
  rw [Nat.one_mul] at this
  exact this
theorem n_shr {m k : Nat} (hm : m < 2 ^ 31) (hk : k < 32) : nI m >>> (nI k &&& 31) = nI (m / 2 ^ k) := pk_shrN hm _ k (n_sl k hk)
theorem n_has {m k : Nat} (hm : m < 2 ^ 31) (hk : k < 32) : (nI m >>> (nI k &&& 31)) &&& 1 = nI (m / 2 ^ k % 2) := by
  rw [n_shr hm hk]
  exact pk_andN (n := m / 2 ^ k) (Nat.lt_of_le_of_lt (Nat.div_le_self _ _) (by omega)) 1 rfl
theorem n_all {N : Nat} (h : N < 31) : ((1 : Int32) <<< (nI N &&& 31)) - 1 = nI (2 ^ N - 1) := by
  rw [n_bit h]
  exact pk_sub (a := 2 ^ N) (b := 1) (Nat.one_le_two_pow)
theorem ix8 (a b : Nat) : nI a * 8 + nI b = nI (8 * a + b) := by
  rw [show (8 : Int32) = nI 8 from rfl, pk_mul, nI_add, Nat.mul_comm]
theorem ix8' (a b : Nat) : 8 * nI a + nI b = nI (8 * a + b) := by
  rw [show (8 : Int32) = nI 8 from rfl, pk_mul, nI_add]
theorem nI_inj {a b : Nat} (ha : a < 2 ^ 31) (hb : b < 2 ^ 31) (h : nI a = nI b) : a = b := (nI_eq ha hb).mp h
theorem nI_neg {a : Nat} (ha : a < 2 ^ 31) : nI a ≠ -1 := by
  intro h
  have h1 := nI_toInt ha
  rw [h, show (-1 : Int32).toInt = -1 from rfl] at h1
  omega
/-! a search with an answer -/
def findO {α : Type} (f : Nat → Option α) : Nat → Option α
  | 0 => none
  | n + 1 => match findO f n with
    | some r => some r
    | none => f n
theorem findO_step {α : Type} {f : Nat → Option α} {i : Nat} (h : findO f i = none) : findO f (i + 1) = f i := by simp [findO, h]
theorem findO_hit {α : Type} {f : Nat → Option α} {i : Nat} {r : α} (h : findO f i = none) (hr : f i = some r) : ∀ n, i < n → findO f n = some r
  | 0, hn => absurd hn (Nat.not_lt_zero _)
  | n + 1, hn => by
    rcases Nat.lt_or_ge i n with q | q
    · simp [findO, findO_hit h hr n q]
    · have e : i = n := by omega
      subst e
      rw [findO_step h, hr]
theorem findO_none {α : Type} {f : Nat → Option α} : ∀ {n : Nat}, findO f n = none ↔ ∀ i, i < n → f i = none
  | 0 => ⟨fun _ i h => absurd h (Nat.not_lt_zero _), fun _ => rfl⟩
  | n + 1 => by
    have ih := findO_none (f := f) (n := n)
    constructor
    · intro h i hi
      cases e : findO f n with
      | some r => simp [findO, e] at h
      | none =>
        rcases Nat.lt_or_ge i n with q | q
        · exact ih.mp e i q
        · have e2 : i = n := by omega
          subst e2
          rw [findO_step e] at h
          exact h
    · intro h
      have e := ih.mpr (fun i hi => h i (by omega))
      rw [findO_step e]
      exact h n (by omega)
theorem findO_some {α : Type} {f : Nat → Option α} {r : α} : ∀ {n : Nat}, findO f n = some r → ∃ i, i < n ∧ f i = some r ∧ ∀ j, j < i → f j = none
  | 0, h => by simp [findO] at h
  | n + 1, h => by
    cases e : findO f n with
    | some x =>
      simp [findO, e] at h
      subst h
      obtain ⟨i, hi, a, b⟩ := findO_some e
      exact ⟨i, by omega, a, b⟩
    | none =>
      rw [findO_step e] at h
      exact ⟨n, by omega, h, fun j hj => findO_none.mp e j hj⟩
/-! sets of bits -/
def msk (f : Nat → Nat) : Nat → Nat
  | 0 => 0
  | n + 1 => msk f n ||| 2 ^ f n
theorem msk_lt {f : Nat → Nat} {N : Nat} : ∀ {n : Nat}, (∀ i, i < n → f i < N) → msk f n < 2 ^ N
  | 0, _ => Nat.two_pow_pos N
  | n + 1, h => Nat.or_lt_two_pow (msk_lt (fun i hi => h i (by omega))) (Nat.pow_lt_pow_right (by decide) (h n (by omega)))
theorem msk_bit {f : Nat → Nat} {v : Nat} : ∀ {n : Nat}, (msk f n).testBit v = true ↔ ∃ i, i < n ∧ f i = v
  | 0 => by simp [msk]
  | n + 1 => by
    rw [msk, Nat.testBit_or, Bool.or_eq_true, msk_bit, Nat.testBit_two_pow]
    constructor
    · rintro (⟨i, hi, e⟩ | e)
      · exact ⟨i, by omega, e⟩
      · exact ⟨n, by omega, by simpa using e⟩
    · rintro ⟨i, hi, e⟩
      rcases Nat.lt_or_ge i n with q | q
      · exact Or.inl ⟨i, q, e⟩
      · have e2 : i = n := by omega
        subst e2
        exact Or.inr (by simpa using e)
theorem msk_all {f : Nat → Nat} {n N : Nat} (h : ∀ i, i < n → f i < N) : msk f n = 2 ^ N - 1 ↔ ∀ v, v < N → ∃ i, i < n ∧ f i = v := by
  constructor
  · intro e v hv
    rw [← msk_bit, e, Nat.testBit_two_pow_sub_one]
    simpa using hv
  · intro hall
    apply Nat.eq_of_testBit_eq
    intro v
    rw [Nat.testBit_two_pow_sub_one]
    rcases Nat.lt_or_ge v N with q | q
    · rw [msk_bit.mpr (hall v q)]
      simp [q]
    · have hb : ¬ (msk f n).testBit v = true := by
        rw [msk_bit]
        rintro ⟨i, hi, e⟩
        have := h i hi
        omega
      rw [Bool.not_eq_true] at hb
      rw [hb]
      simp [Nat.not_lt.mpr q]
theorem n_msk {f : Nat → Nat} {n N : Nat} (h : f n < N) (hN : N ≤ 30) : nI (msk f n) ||| ((1 : Int32) <<< (nI (f n) &&& 31)) = nI (msk f (n + 1)) := by
  rw [n_bit (by omega), fa_or]
  rfl
/-! things and tables -/
def th (N : Nat) (x : Int32) : Prop := ∃ j, j < N ∧ x = nI j
theorem th_iff {N : Nat} (hN : N < 2 ^ 31) (x : Int32) : th N x ↔ 0 ≤ x.toInt ∧ x.toInt < N := by
  rw [← vp_in_iff]
  exact ⟨fun ⟨j, hj, e⟩ => e ▸ vp_in_nI hj hN, fun h => vp_in_of h hN⟩
def tab (c : Nat → Int32) (N : Nat) (T : Nat → Nat → Nat) : Prop := ∀ a b, a < N → b < N → c (8 * a + b) = nI (T a b) ∧ T a b < N
theorem e_turned {c : Nat → Int32} {K : Int32 → Prop} {a b : Nat} (ha : a < 8) (hb : b < 8) (h : K (c (8 * a + b))) : pX7_turned c (nI a) (nI b) K := by
  unfold pX7_turned
  rw [ix8]
  exact ⟨vp_in_nI (by omega) (by decide), by rw [nI_clamp (by omega)]; exact h⟩
theorem e_by {c : Nat → Int32} {K : Int32 → Prop} {a b : Nat} (ha : a < 8) (hb : b < 8) (h : K (c (8 * a + b))) : pX11_by c (nI a) (nI b) K := by
  unfold pX11_by
  rw [ix8']
  exact ⟨vp_in_nI (by omega) (by decide), by rw [nI_clamp (by omega)]; exact h⟩
theorem t_turned {c : Nat → Int32} {N : Nat} {T : Nat → Nat → Nat} {K : Int32 → Prop} {a b : Nat} (ht : tab c N T) (hN : N ≤ 8) (ha : a < N) (hb : b < N) (h : K (nI (T a b))) : pX7_turned c (nI a) (nI b) K :=
  e_turned (by omega) (by omega) (by rw [(ht a b ha hb).1]; exact h)
theorem t_by {c : Nat → Int32} {N : Nat} {T : Nat → Nat → Nat} {K : Int32 → Prop} {a b : Nat} (ht : tab c N T) (hN : N ≤ 8) (ha : a < N) (hb : b < N) (h : K (nI (T a b))) : pX11_by c (nI a) (nI b) K :=
  e_by (by omega) (by omega) (by rw [(ht a b ha hb).1]; exact h)
theorem e_put {c : Nat → Int32} {K : (Nat → Int32) → Prop} {a b : Nat} {v : Int32} (ha : a < 8) (hb : b < 8) (h : K (upd c (8 * a + b) v)) : pX7_put c (nI a) (nI b) v K := by
  unfold pX7_put
  rw [ix8]
  exact ⟨vp_in_nI (by omega) (by decide), by rw [nI_clamp (by omega)]; exact h⟩
theorem e_value {c : Nat → Int32} {K : Int32 → Prop} {a b : Nat} (ha : a < 8) (hb : b < 8) (h : K (c (8 * a + b))) : pX9_value c (nI a) (nI b) K := by
  unfold pX9_value
  rw [ix8]
  exact ⟨vp_in_nI (by omega) (by decide), by rw [nI_clamp (by omega)]; exact h⟩
theorem s_has {N : Nat} {x : Int32} {K : Int32 → Prop} (hN : N < 2 ^ 31) (h1 : th N x → K 1) (h0 : ¬ th N x → K 0) : pX7_has (nI N) x K := by
  rw [th_iff hN] at h1 h0
  have e : (nI N).toInt = (N : Int) := nI_toInt hN
  refine ⟨fun h => ⟨Or.inl rfl, h0 ?_⟩, fun h => ⟨fun h2 => ⟨Or.inl rfl, h0 ?_⟩, fun h2 => ⟨Or.inr rfl, h1 ?_⟩⟩⟩
  · rw [Int32.lt_iff_toInt_lt, Int32.toInt_zero] at h
    omega
  · rw [Int32.le_iff_toInt_le, e] at h2
    omega
  · rw [Int32.lt_iff_toInt_lt, Int32.toInt_zero] at h
    rw [Int32.le_iff_toInt_le, e] at h2
    omega
theorem s_in {x lo hi : Int64} {K : Int32 → Prop} (h1 : lo ≤ x ∧ x ≤ hi → K 1) (h0 : ¬ (lo ≤ x ∧ x ≤ hi) → K 0) : pX11_in x lo hi K := by
  have e1 : lg_cmp x lo < 0 ↔ ¬ lo ≤ x := by rw [lg_cmp_lt, fa_lt64, fa_le64]; omega
  have e2 : 0 < lg_cmp x hi ↔ ¬ x ≤ hi := by rw [lg_cmp_gt, fa_lt64, fa_le64]; omega
  refine ⟨fun h => ⟨Or.inl rfl, h0 (fun q => e1.mp h q.1)⟩, fun h => ⟨fun h2 => ⟨Or.inl rfl, h0 (fun q => e2.mp h2 q.2)⟩, fun h2 => ⟨Or.inr rfl, h1 ⟨?_, ?_⟩⟩⟩⟩
  · exact Classical.not_not.mp (fun q => h (e1.mpr q))
  · exact Classical.not_not.mp (fun q => h2 (e2.mpr q))
theorem w_le (x y : Int32) : x.toInt64 ≤ y.toInt64 ↔ x.toInt ≤ y.toInt := by
  rw [fa_wide_le, Int32.le_iff_toInt_le]
theorem s_isThing {N : Nat} {x : Int32} {K : Int32 → Prop} (hN1 : 1 ≤ N) (hN : N < 2 ^ 31) (h1 : th N x → K 1) (h0 : ¬ th N x → K 0) : pX11_isThing (nI N) x K := by
  rw [th_iff hN] at h1 h0
  have e : nI N - 1 = nI (N - 1) := pk_sub (a := N) (b := 1) hN1
  have key : ((0 : Int64) ≤ x.toInt64 ∧ x.toInt64 ≤ (nI N - 1).toInt64) ↔ (0 ≤ x.toInt ∧ x.toInt < N) := by
    rw [show (0 : Int64) = (0 : Int32).toInt64 from rfl, w_le, w_le, e, nI_toInt (by omega), Int32.toInt_zero]
    omega
  exact s_in (fun h => ⟨Or.inr rfl, h1 (key.mp h)⟩) (fun h => ⟨Or.inl rfl, h0 (fun q => h (key.mpr q))⟩)
