def covT (T : Nat → Nat → Nat) (v : Nat → Nat) (k x y : Nat) : Nat := k * T (x / k) (y / k) + (y % k + v (8 * (x / k) + y / k)) % k
theorem covT_lt {T : Nat → Nat → Nat} {v : Nat → Nat} {N k x y : Nat} (hk : 1 ≤ k) (h1 : T (x / k) (y / k) < N) : covT T v k x y < N * k := by
  unfold covT
  have : k * (T (x / k) (y / k) + 1) ≤ k * N := Nat.mul_le_mul_left k h1
  have h2 : (y % k + v (8 * (x / k) + y / k)) % k < k := Nat.mod_lt _ (by omega)
  rw [Nat.mul_add, Nat.mul_one] at this
  rw [Nat.mul_comm N k]
  omega
theorem op_cover {cn : Int32} {cc : Nat → Int32} {dn : Int32} {dc : Nat → Int32} {wm : Int32} {wv : Nat → Int32} {thr mn : Int32} {md mt : Nat → Int32} {wm' : Int32} {mv : Nat → Int32} (h : RelT cn cc mn mt) (hw : RelW wm wv wm' mv) :
    pX10_cover cn cc dn dc wm wv (fun r cn' cc' _ _ wv' => pX11_cover thr mn wm' md mt mv (fun r' _ mn' _ mt' mv' => r = r' ∧ RelT cn' cc' mn' mt' ∧ RelW wm wv' wm' mv')) := by
  obtain ⟨N, T, h1, h8, rfl, rfl, hx, hm⟩ := id h
  obtain ⟨k, k2, k7, rfl, rfl, hv⟩ := id hw
  have hk : ¬ nI k = 0 := nI_ne0 (by omega) (by omega)
  have hNk : N * k ≤ 56 := Nat.mul_le_mul h8 k7
  have ev : opn T N wv (nI k) = opn T N mv (nI k) := opn_cong (tab_T hx) h8 (fun j hj => (hv j hj).1)
  unfold pX10_cover
  rw [pk_mul]
  have no : (8 < N * k ∨ ¬ rackB T N ∨ opn T N wv (nI k) ≠ none) → pX11_cover thr (nI N) (nI k) md mt mv (fun r' _ mn' _ mt' mv' => -1 = r' ∧ RelT (nI N) cc mn' mt' ∧ RelW (nI k) wv (nI k) mv') := by
    intro hn
    unfold pX11_cover
    rw [pk_mul]
    refine pk_lt 8 (N * k) (fun _ => ⟨rfl, h, hw⟩) (fun hle => ?_)
    refine s_isRackM hm h8 (fun rk => y1 ?_) (fun _ => y0 ⟨rfl, h, hw⟩)
    refine s_opnM hm h8 hk ?_
    rw [← ev]
    cases e : opn T N wv (nI k) with
    | none =>
      rcases hn with q | q | q
      · omega
      · exact absurd rk q
      · exact absurd e q
    | some r =>
      obtain ⟨a, b, c', ha, hb, hc, rfl⟩ := opn_of e
      exact ⟨fun q => absurd q (nI_pos (by omega)), fun _ => ⟨rfl, h, hw⟩⟩
  refine pk_lt 8 (N * k) (fun hgt => no (Or.inl hgt)) (fun hle => ?_)
  refine s_isRack hx h8 (fun rk => y1 ?_) (fun rk => y0 (no (Or.inr (Or.inl rk))))
  refine s_opnX hx h8 hk ?_
  cases e : opn T N wv (nI k) with
  | some r =>
    obtain ⟨a, b, c', ha, hb, hc, rfl⟩ := opn_of e
    exact ⟨fun q => absurd q (nI_neg (by omega)), fun _ => no (Or.inr (Or.inr (by rw [e]; exact fun q => by cases q)))⟩
  | none =>
    refine ⟨fun _ => ?_, fun q => absurd rfl q⟩
    have hvn : ∀ j, j < 64 → ∃ n : Nat, n < k ∧ wv j = nI n := fun j hj => (hv j hj).2
    have hV : ∃ V : Nat → Nat, ∀ j, j < 64 → V j < k ∧ wv j = nI (V j) := ⟨fun j => (wv j).toNatClampNeg, fun j hj => by
      obtain ⟨n, hn, en⟩ := hvn j hj
      show (wv j).toNatClampNeg < k ∧ wv j = nI (wv j).toNatClampNeg
      rw [en, nI_clamp (by omega)]
      exact ⟨hn, rfl⟩⟩
    obtain ⟨V, hV⟩ := hV
    have hmV : ∀ j, j < 64 → mv j = nI (V j) := fun j hj => ((hv j hj).1).symm.trans (hV j hj).2
    have hTT : ∀ i j, i < N * k → j < N * k → covT T V k i j < N * k := fun i j hi hj => covT_lt (by omega) (hx _ _ (div_lt_of (by omega) hi) (div_lt_of (by omega) hj)).2
    refine lpW2_for (N * k) (fun i x f => x = nI i ∧ sqd (N * k) i f (covT T V k)) 0 (Nat.zero_le _) ⟨nI_0.symm, fun a b ha => absurd ha (Nat.not_lt_zero _)⟩ ?_
    rintro i hi x f ⟨rfl, hI⟩ R hR
    refine pk_le (N * k) i (fun hle2 => ?_) (fun hlt => ?_)
    · have ei : i = N * k := by omega
      refine s_adopt ?_
      unfold pX11_cover
      rw [pk_mul]
      refine pk_lt 8 (N * k) (fun q => absurd q (by omega)) (fun _ => ?_)
      refine s_isRackM hm h8 (fun _ => y1 ?_) (fun q => absurd rk q)
      refine s_opnM hm h8 hk ?_
      rw [← ev, e]
      refine ⟨fun _ => ?_, fun q => absurd (by decide) q⟩
      refine lpW2_for (N * k) (fun i x f => x = nI i ∧ sqd (N * k) i f (covT T V k)) 0 (Nat.zero_le _) ⟨nI_0.symm, fun a b ha => absurd ha (Nat.not_lt_zero _)⟩ ?_
      rintro i2 hi2 x g ⟨rfl, hI2⟩ R2 hR2
      refine pk_le (N * k) i2 (fun hle2 => ?_) (fun hlt2 => ?_)
      · have ei2 : i2 = N * k := by omega
        refine s_becomes ⟨rfl, ⟨N * k, covT T V k, Nat.mul_pos h1 (by omega), by omega, rfl, rfl, tab_cpy (fun a b ha hb => ⟨hI a b (by omega) hb, hTT a b ha hb⟩) (by omega), tab_fill (fun a b ha hb => ⟨hI2 a b (by omega) hb, hTT a b ha hb⟩) (by omega)⟩, relW_flat' hw⟩
      · refine lpW2_for (N * k) (fun j x g' => x = nI j ∧ g' = fb_put g (fun j => nI (covT T V k i2 j)) (8 * i2) j) 0 (Nat.zero_le _) ⟨nI_0.symm, (fb_put_0 _ _ _).symm⟩ ?_
        rintro j hj x g' ⟨rfl, rfl⟩ R3 hR3
        refine pk_le (N * k) j (fun hle2 => ?_) (fun hlt3 => ?_)
        · have ej : j = N * k := by omega
          exact hR2 hlt2 _ _ ⟨nI_1 i2, sqd_row (by omega) hI2 (by rw [ej])⟩
        · have a1 := div_lt_of (m := k) (by omega) hlt2
          have a2 := div_lt_of (m := k) (by omega) hlt3
          have b2 : j % k < k := Nat.mod_lt _ (by omega)
          have vv := hV (8 * (i2 / k) + j / k) (by omega)
          rw [pk_rem (a := j) (d := k) (by omega) (by omega) (by omega), pk_div (a := i2) (d := k) (by omega) (by omega) (by omega), pk_div (a := j) (d := k) (by omega) (by omega) (by omega)]
          refine ⟨hk, hk, t_by hm h8 a1 a2 ⟨hk, hk, hk, e_twistOf (by omega) (by omega) ?_⟩⟩
          rw [hmV _ (by omega), nI_add, pk_rem (by omega) (by omega) (by omega), ix8', nI_clamp (by omega), pk_mul, nI_add]
          exact ⟨hk, vp_in_nI (by omega) (by decide), hR3 hlt3 _ _ ⟨nI_1 j, fb_put_succ g (fun j => nI (covT T V k i2 j)) (8 * i2) j⟩⟩
    · rw [pk_div (a := i) (d := k) (by omega) (by omega) (by omega)]
      refine ⟨hk, ?_⟩
      refine lpW2_for (N * k) (fun j x g' => x = nI j ∧ g' = fb_put f (fun j => nI (covT T V k i j)) (8 * i) j) 0 (Nat.zero_le _) ⟨nI_0.symm, (fb_put_0 _ _ _).symm⟩ ?_
      rintro j hj x g' ⟨rfl, rfl⟩ R3 hR3
      refine pk_le (N * k) j (fun hle2 => ?_) (fun hlt3 => ?_)
      · have ej : j = N * k := by omega
        exact hR hlt _ _ ⟨nI_1 i, sqd_row (by omega) hI (by rw [ej])⟩
      · have a1 := div_lt_of (m := k) (by omega) hlt
        have a2 := div_lt_of (m := k) (by omega) hlt3
        have b2 : j % k < k := Nat.mod_lt _ (by omega)
        have vv := hV (8 * (i / k) + j / k) (by omega)
        rw [pk_rem (a := j) (d := k) (by omega) (by omega) (by omega), pk_div (a := j) (d := k) (by omega) (by omega) (by omega)]
        refine ⟨hk, t_turned hx h8 a1 a2 ⟨hk, e_value (by omega) (by omega) ?_⟩⟩
        rw [vv.2, nI_add, pk_rem (by omega) (by omega) (by omega), pk_mul, nI_add]
        exact ⟨hk, e_put (by omega) (by omega) (hR3 hlt3 _ _ ⟨nI_1 j, fb_put_succ f (fun j => nI (covT T V k i j)) (8 * i) j⟩)⟩
/-! the least closed set -/
def sw2 (T : Nat → Nat → Nat) (a s : Nat) : Nat → Nat
  | 0 => s
  | n + 1 => if (sw2 T a s n).testBit a = true ∧ (sw2 T a s n).testBit n = true then sw2 T a s n ||| 2 ^ T a n else sw2 T a s n
theorem sw2_s (T : Nat → Nat → Nat) (a s n : Nat) : sw2 T a s (n + 1) = if (sw2 T a s n).testBit a = true ∧ (sw2 T a s n).testBit n = true then sw2 T a s n ||| 2 ^ T a n else sw2 T a s n := rfl
def sw1 (T : Nat → Nat → Nat) (N s : Nat) : Nat → Nat
  | 0 => s
  | a + 1 => sw2 T a (sw1 T N s a) N
def swr (T : Nat → Nat → Nat) (N s : Nat) : Nat → Nat
  | 0 => s
  | r + 1 => sw1 T N (swr T N s r) N
theorem sw2_lt {T : Nat → Nat → Nat} {N a s : Nat} (hT : ∀ b, b < N → T a b < N) (hs : s < 2 ^ N) : ∀ n, n ≤ N → sw2 T a s n < 2 ^ N
  | 0, _ => hs
  | n + 1, hn => by
    have ih := sw2_lt hT hs n (by omega)
    unfold sw2
    split
    · exact Nat.or_lt_two_pow ih (Nat.pow_lt_pow_right (by decide) (hT n (by omega)))
    · exact ih
theorem sw1_lt {T : Nat → Nat → Nat} {N s : Nat} (hT : ∀ a b, a < N → b < N → T a b < N) (hs : s < 2 ^ N) : ∀ a, a ≤ N → sw1 T N s a < 2 ^ N
  | 0, _ => hs
  | a + 1, ha => sw2_lt (fun b hb => hT a b (by omega) hb) (sw1_lt hT hs a (by omega)) N (Nat.le_refl _)
theorem swr_lt {T : Nat → Nat → Nat} {N s : Nat} (hT : ∀ a b, a < N → b < N → T a b < N) (hs : s < 2 ^ N) : ∀ r, swr T N s r < 2 ^ N
  | 0 => hs
  | r + 1 => sw1_lt hT (swr_lt hT hs r) N (Nat.le_refl _)
theorem swr_stop {T : Nat → Nat → Nat} {N s r : Nat} (h : swr T N s (r + 1) = swr T N s r) : ∀ q, r ≤ q → swr T N s q = swr T N s r := by
  intro q hq
  induction q with
  | zero => rw [show r = 0 by omega]
  | succ q ih =>
    rcases Nat.lt_or_ge q r with c | c
    · rw [show q + 1 = r by omega]
    · show sw1 T N (swr T N s q) N = _
      rw [ih c]
      exact h
theorem n_two {s a b : Nat} (hs : s < 2 ^ 31) (ha : a < 32) (hb : b < 32) : ((nI s >>> (nI a &&& 31)) &&& (nI s >>> (nI b &&& 31))) &&& 1 = nI (if s.testBit a = true ∧ s.testBit b = true then 1 else 0) := by
  have h1 : s / 2 ^ a ≤ s := Nat.div_le_self _ _
  rw [n_shr hs ha, n_shr hs hb, fa_and]
  have h2 : (s / 2 ^ a) &&& (s / 2 ^ b) ≤ s / 2 ^ a := Nat.and_le_left
  rw [show nI ((s / 2 ^ a) &&& (s / 2 ^ b)) &&& 1 = nI (((s / 2 ^ a) &&& (s / 2 ^ b)) % 2) from pk_andN (n := (s / 2 ^ a) &&& (s / 2 ^ b)) (by omega) 1 rfl]
  congr 1
  have e : ((s / 2 ^ a) &&& (s / 2 ^ b)).testBit 0 = (s.testBit a && s.testBit b) := by
    rw [Nat.testBit_and, Nat.testBit_div_two_pow, Nat.testBit_div_two_pow, Nat.zero_add, Nat.zero_add]
  rw [Nat.testBit_zero] at e
  generalize (s / 2 ^ a &&& s / 2 ^ b) = X at e
  have hm2 : X % 2 < 2 := Nat.mod_lt _ (by decide)
  by_cases q : s.testBit a = true ∧ s.testBit b = true
  · rw [q.1, q.2] at e
    rw [if_pos q]
    simpa using e
  · rw [if_neg q]
    have e3 : (s.testBit a && s.testBit b) = false := by
      cases ea : s.testBit a
      · rfl
      · cases eb : s.testBit b
        · rfl
        · exact absurd ⟨ea, eb⟩ q
    rw [e3] at e
    have e4 : ¬ X % 2 = 1 := by simpa using e
    omega
theorem s_closedSet {c : Nat → Int32} {N s : Nat} {T : Nat → Nat → Nat} {K : Int32 → Prop} (ht : tab c N T) (h1 : 1 ≤ N) (hN : N ≤ 8) (hs0 : 0 < s) (hs : s < 2 ^ N) (h : K (nI (swr T N s N))) : pX10_closedSet (nI N) c (nI s) K := by
  have h8 := p2_8 hN
  have hb : ∀ r, swr T N s r < 256 := fun r => Nat.lt_of_lt_of_le (swr_lt (tab_T ht) hs r) h8
  refine lpW3_for N (fun r x2 x3 x4 => x4 = nI r ∧ x2 = nI (swr T N s r) ∧ x3 = nI (match r with | 0 => 0 | r + 1 => swr T N s r)) 0 (Nat.zero_le _) ⟨nI_0.symm, rfl, nI_0.symm⟩ ?_
  rintro r hr x2 x3 x4 ⟨rfl, rfl, rfl⟩ R hR
  refine pk_le N r (fun hle => ?_) (fun hlt => ?_)
  · have e : r = N := by omega
    subst e
    exact h
  · refine ⟨fun e => ?_, fun e => ?_⟩
    · cases r with
      | zero =>
        have := nI_inj (a := s) (b := 0) (by have := hb 0; unfold swr at this; omega) (by decide) e
        omega
      | succ r =>
        have e2 : swr T N s (r + 1) = swr T N s r := nI_inj (by have := hb (r + 1); omega) (by have := hb r; omega) e
        rw [swr_stop e2 N (by omega)] at h
        rw [e2]
        exact h
    · have hbr := swr_lt (tab_T ht) hs r
      refine lpW2_for N (fun a x2 x5 => x5 = nI a ∧ x2 = nI (sw1 T N (swr T N s r) a)) 0 (Nat.zero_le _) ⟨nI_0.symm, rfl⟩ ?_
      rintro a ha x2 x5 ⟨rfl, rfl⟩ R2 hR2
      refine pk_le N a (fun hle => ?_) (fun hlt2 => ?_)
      · have e : a = N := by omega
        subst e
        exact hR hlt _ _ _ ⟨nI_1 r, rfl, rfl⟩
      · have hba := sw1_lt (tab_T ht) hbr a (by omega)
        refine lpW2_for N (fun b x2 x6 => x6 = nI b ∧ x2 = nI (sw2 T a (sw1 T N (swr T N s r) a) b)) 0 (Nat.zero_le _) ⟨nI_0.symm, rfl⟩ ?_
        rintro b hb2 x2 x6 ⟨rfl, rfl⟩ R3 hR3
        refine pk_le N b (fun hle => ?_) (fun hlt3 => ?_)
        · have e : b = N := by omega
          subst e
          exact hR2 hlt2 _ _ ⟨nI_1 a, rfl⟩
        · have hbb := sw2_lt (fun b hb => (ht a b hlt2 hb).2) hba b (by omega)
          rw [n_two (by omega) (by omega) (by omega)]
          by_cases q : (sw2 T a (sw1 T N (swr T N s r) a) b).testBit a = true ∧ (sw2 T a (sw1 T N (swr T N s r) a) b).testBit b = true
          · rw [if_pos q]
            refine ⟨fun w => absurd rfl w, fun _ => t_turned ht hN hlt2 hlt3 (hR3 hlt3 _ _ ⟨nI_1 b, ?_⟩)⟩
            have hv := (ht a b hlt2 hlt3).2
            rw [n_bit (by omega), fa_or]
            rw [sw2_s, if_pos q]
          · rw [if_neg q]
            refine ⟨fun _ => hR3 hlt3 _ _ ⟨nI_1 b, ?_⟩, fun w => absurd w (by decide)⟩
            rw [sw2_s, if_neg q]
def bct (s n : Nat) : Nat := fb_ct (fun i => s.testBit i) n
theorem op_within {tc : Int32} {cn : Int32} {cc tt : Nat → Int32} {thr mn mr : Int32} {mrow mt : Nat → Int32} {x1 : Int32} (h : RelT cn cc mn mt) (hr : RelR tc tt mr mrow) : pX10_within tc cn cc tt x1 (fun r a b => pX11_within thr mn mr mrow mt x1 (fun r' _ a' b' => r = r' ∧ RelR a b a' b')) := by
  obtain ⟨N, T, h1, h8, rfl, rfl, hx, hm⟩ := h
  have h28 := p2_8 h8
  have hp : 1 ≤ 2 ^ N := Nat.one_le_two_pow
  have no : ¬ rg 1 (2 ^ N - 1) x1 → pX11_within thr (nI N) mr mrow mt x1 (fun r' _ a' b' => -1 = r' ∧ RelR tc tt a' b') := by
    intro hn
    unfold pX11_within
    rw [n_all (by omega)]
    exact s_inR 1 (2 ^ N - 1) (by omega) (by decide) rfl rfl (fun q => absurd q hn) (fun _ => y0' ⟨rfl, hr⟩)
  unfold pX10_within
  rw [n_bit (by omega)]
  refine ⟨fun c => no ?_, fun c => ⟨fun c2 => ?_, fun c2 => no ?_⟩⟩
  · rintro ⟨j, hj, _, rfl⟩
    exact nI_nle (by omega) (by omega) c
  · have hrg : rg 1 (2 ^ N - 1) x1 := by
      rw [rg_iff (by omega)]
      rw [i_le, Int32.toInt_zero] at c
      rw [i_lt, nI_toInt (by omega)] at c2
      omega
    obtain ⟨s, hs1, hs2, rfl⟩ := id hrg
    have hsw := swr_lt (tab_T hx) (s := s) (by omega) N
    refine s_closedSet hx h1 h8 (by omega) (by omega) ?_
    generalize hS : swr T N s N = S at hsw
    refine lpW3_for N (fun a x3 n t => x3 = nI a ∧ n = nI (bct S a) ∧ ∀ b, b < a → S.testBit b = true → t (bct S b) = nI b) 0 (Nat.zero_le _) ⟨nI_0.symm, rfl, fun b hb => absurd hb (Nat.not_lt_zero _)⟩ ?_
    rintro a ha x3 n t ⟨rfl, rfl, hI⟩ R hR
    refine pk_le N a (fun hle => ?_) (fun hlt => ?_)
    · have e : a = N := by omega
      subst e
      unfold pX11_within
      rw [n_all (by omega)]
      refine s_inR 1 (2 ^ a - 1) (by omega) (by decide) rfl rfl (fun _ => y1' ?_) (fun q => absurd hrg q)
      refine lpW2_for a (fun r x2 x3 => x3 = nI r ∧ x2 = nI (swr T a s r)) 0 (Nat.zero_le _) ⟨nI_0.symm, rfl⟩ ?_
      rintro r hr2 x2 x3 ⟨rfl, rfl⟩ R2 hR2
      refine pk_le a r (fun hle => ?_) (fun hlt2 => ?_)
      · have e : r = a := by omega
        subst e
        rw [hS]
        refine lpW3_for r (fun a x3 n t => x3 = nI a ∧ n = nI (bct S a) ∧ ∀ b, b < a → S.testBit b = true → t (bct S b) = nI b) 0 (Nat.zero_le _) ⟨nI_0.symm, rfl, fun b hb => absurd hb (Nat.not_lt_zero _)⟩ ?_
        rintro a' ha' x3 n t' ⟨rfl, rfl, hJ⟩ R3 hR3
        have hle8 : bct S a' ≤ a' := fb_ct_le _ _
        refine pk_le r a' (fun hle => ?_) (fun hlt3 => ?_)
        · have e : a' = r := by omega
          subst e
          refine ⟨rfl, bct S a', by omega, rfl, rfl, fun i hi => ?_⟩
          obtain ⟨b, hb, hp2, hc⟩ := fb_ct_kth hi
          have e1 := hI b hb hp2
          have e2 := hJ b hb hp2
          unfold bct at e1 e2
          rw [hc] at e1 e2
          rw [e1, e2]
        · rw [n_tb (by omega) (by omega)]
          cases eb : S.testBit a' with
          | true =>
            refine ⟨fun q => absurd rfl q, fun _ => ⟨vp_in_nI (by omega) (by decide), hR3 hlt3 _ _ _ ⟨nI_1 a', ?_, ?_⟩⟩⟩
            · show nI (bct S a') + 1 = nI (bct S (a' + 1))
              rw [show bct S (a' + 1) = bct S a' + 1 from by unfold bct; rw [fb_ct_succ, eb]; rfl]
              exact nI_1 _
            · rw [nI_clamp (by omega)]
              intro b hb2 hbit
              unfold upd
              rcases Nat.lt_or_ge b a' with q | q
              · have : bct S b < bct S a' := by
                  have := fb_ct_mono (fun i => S.testBit i) (show b + 1 ≤ a' by omega)
                  rw [fb_ct_succ, hbit] at this
                  unfold bct
                  simp at this
                  omega
                rw [if_neg (by omega)]
                exact hJ b q hbit
              · rw [show b = a' by omega, if_pos rfl]
          | false =>
            refine ⟨fun _ => hR3 hlt3 _ _ _ ⟨nI_1 a', ?_, ?_⟩, fun q => absurd q (by decide)⟩
            · rw [show bct S (a' + 1) = bct S a' from by unfold bct; rw [fb_ct_succ, eb]; rfl]
            · intro b hb2 hbit
              rcases Nat.lt_or_ge b a' with q | q
              · exact hJ b q hbit
              · rw [show b = a' by omega, eb] at hbit
                cases hbit
      · have hbr := swr_lt (tab_T hm) (s := s) (by omega) r
        refine lpW2_for a (fun i x2 x4 => x4 = nI i ∧ x2 = nI (sw1 T a (swr T a s r) i)) 0 (Nat.zero_le _) ⟨nI_0.symm, rfl⟩ ?_
        rintro i hi x2 x4 ⟨rfl, rfl⟩ R3 hR3
        refine pk_le a i (fun hle => ?_) (fun hlt3 => ?_)
        · have e : i = a := by omega
          subst e
          exact hR2 hlt2 _ _ ⟨nI_1 r, rfl⟩
        · have hba := sw1_lt (tab_T hm) hbr i (by omega)
          refine lpW2_for a (fun b x2 x5 => x5 = nI b ∧ x2 = nI (sw2 T i (sw1 T a (swr T a s r) i) b)) 0 (Nat.zero_le _) ⟨nI_0.symm, rfl⟩ ?_
          rintro b hb2 x2 x5 ⟨rfl, rfl⟩ R4 hR4
          refine pk_le a b (fun hle => ?_) (fun hlt4 => ?_)
          · have e : b = a := by omega
            subst e
            exact hR3 hlt3 _ _ ⟨nI_1 i, rfl⟩
          · have hbb := sw2_lt (fun b hb => (hm i b hlt3 hb).2) hba b (by omega)
            rw [n_two (by omega) (by omega) (by omega)]
            by_cases q : (sw2 T i (sw1 T a (swr T a s r) i) b).testBit i = true ∧ (sw2 T i (sw1 T a (swr T a s r) i) b).testBit b = true
            · rw [if_pos q]
              refine ⟨fun w => absurd rfl w, fun _ => t_by hm h8 hlt3 hlt4 (hR4 hlt4 _ _ ⟨nI_1 b, ?_⟩)⟩
              have hv := (hm i b hlt3 hlt4).2
              rw [n_bit (by omega), fa_or]
              rw [sw2_s, if_pos q]
            · rw [if_neg q]
              refine ⟨fun _ => hR4 hlt4 _ _ ⟨nI_1 b, ?_⟩, fun w => absurd w (by decide)⟩
              rw [show (0 : Int32) = nI 0 from rfl, fa_or, Nat.or_zero]
              rw [sw2_s, if_neg q]
    · have hle8 : bct S a ≤ a := fb_ct_le _ _
      rw [n_tb (by omega) (by omega)]
      cases eb : S.testBit a with
      | true =>
        refine ⟨fun q => absurd rfl q, fun _ => s_tell (by omega) (hR hlt _ _ _ ⟨nI_1 a, ?_, ?_⟩)⟩
        · rw [show bct S (a + 1) = bct S a + 1 from by unfold bct; rw [fb_ct_succ, eb]; rfl]
        · intro b hb2 hbit
          unfold upd
          rcases Nat.lt_or_ge b a with q | q
          · have : bct S b < bct S a := by
              have := fb_ct_mono (fun i => S.testBit i) (show b + 1 ≤ a by omega)
              rw [fb_ct_succ, hbit] at this
              unfold bct
              simp at this
              omega
            rw [if_neg (by omega)]
            exact hI b q hbit
          · rw [show b = a by omega, if_pos rfl]
      | false =>
        refine ⟨fun _ => hR hlt _ _ _ ⟨nI_1 a, ?_, ?_⟩, fun q => absurd q (by decide)⟩
        · rw [show bct S (a + 1) = bct S a from by unfold bct; rw [fb_ct_succ, eb]; rfl]
        · intro b hb2 hbit
          rcases Nat.lt_or_ge b a with q | q
          · exact hI b q hbit
          · rw [show b = a by omega, eb] at hbit
            cases hbit
  · rw [rg_iff (by omega)]
    rw [i_lt, nI_toInt (by omega)] at c2
    omega
