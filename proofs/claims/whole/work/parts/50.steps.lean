/-! The bench takes one equation after another. -/
theorem s_inverse {p a : Nat} {K : Int32 → Prop} (hp : isP p) (ha : a < p) (ha0 : a ≠ 0) (h : ∀ f, f < p → a * f % p = 1 → K (nI f)) : pX6_inverse (nI p) (nI a) K := by
  obtain ⟨h2, h8⟩ := isP_lt hp
  obtain ⟨b, hb, eb⟩ := isP_inv hp a ha ha0
  have hb1 : 1 ≤ b := by
    rcases Nat.eq_zero_or_pos b with q | q
    · rw [q, Nat.mul_zero, Nat.zero_mod] at eb
      omega
    · exact q
  refine lpW1_for b (fun i x => x = nI i) 1 hb1 rfl ?_
  rintro i hi x rfl R hR
  refine pk_le p i (fun hle => by omega) (fun hlt => ⟨nI_ne0 (by omega) (by omega), ?_⟩)
  have hm : a * i ≤ 7 * 7 := Nat.mul_le_mul (by omega) (by omega)
  rw [pk_mul, pk_rem (by omega) (by omega) (by omega)]
  have hr : a * i % p < p := Nat.mod_lt _ (by omega)
  refine pk_ne (a * i % p) 1 (by omega) (by omega) (fun e => h i hlt e) (fun e => hR ?_ _ (nI_1 i))
  have : i ≠ b := fun z => e (z ▸ eb)
  omega
/-- what the bench holds after k equations -/
def stOk (p U : Nat) (A : Nat → Nat → Int) (k : Nat) (ld : Int64) (st : Nat → Int32) (L : Nat → Bool) : Prop :=
  (∀ u, u < U → ld.toBitVec.getLsbD u = L u) ∧
  (∀ u, u < U → L u = true → ∃ s : Nat → Nat, (∀ i, u ≤ i → i < U → st (64 * u + i) = nI (s i) ∧ s i < p) ∧ s u = 1 ∧ Wk p U A k (fun i => if i < u then 0 else (s i : Int))) ∧
  ∀ v j, Wk p U A k v → ldg p U v j → L j = true
theorem s_clear {p U i : Nat} {x s : Nat → Nat} {eq st : Nat → Int32} {K : (Nat → Int32) → Prop} (hp : 2 ≤ p) (hp8 : p < 8) (hU : U ≤ 64) (hi : i < U) (hl : lbl eq U x) (hx : ∀ u, u < U → x u < p) (hs : ∀ j, i ≤ j → j < U → st (64 * i + j) = nI (s j) ∧ s j < p)
    (h : ∀ eq', lbl eq' U (fun u => if u < i then x u else (x u + (p - x i) * s u) % p) → K eq') : pX6_clearLead (nI U) (nI p) eq st (nI i) K := by
  have bi := hx i hi
  refine ⟨vp_in_nI (by omega) (by decide), ?_⟩
  rw [nI_clamp (by omega), hl i hi, pk_sub (by omega)]
  refine lpW2_for U (fun j x3 f => x3 = nI j ∧ i ≤ j ∧ lbl f U (fun u => if u < i then x u else if u < j then (x u + (p - x i) * s u) % p else x u)) i (by omega) ⟨rfl, Nat.le_refl _, fun u hu => ?_⟩ ?_
  · show eq u = nI (if u < i then x u else if u < i then (x u + (p - x i) * s u) % p else x u)
    by_cases e : u < i
    · rw [if_pos e]
      exact hl u hu
    · rw [if_neg e, if_neg e]
      exact hl u hu
  · rintro j hj x3 f ⟨rfl, hij, hf⟩ R hR
    refine pk_le U j (fun hle => ?_) (fun hlt => ?_)
    · have e : j = U := by omega
      subst e
      refine h f (fun u hu => ?_)
      rw [hf u hu]
      show nI (if u < i then x u else if u < j then (x u + (p - x i) * s u) % p else x u) = nI (if u < i then x u else (x u + (p - x i) * s u) % p)
      by_cases e : u < i
      · rw [if_pos e, if_pos e]
      · rw [if_neg e, if_neg e, if_pos hu]
    · obtain ⟨s1, s2⟩ := hs j hij hlt
      have bj := hx j hlt
      have hm : (p - x i) * s j ≤ 7 * 7 := Nat.mul_le_mul (by omega) (by omega)
      have ei : nI i * 64 + nI j = nI (64 * i + j) := by rw [show (64 : Int32) = nI 64 from rfl, pk_mul, nI_add, Nat.mul_comm]
      have ej : f j = nI (x j) := by
        rw [hf j hlt]
        show nI (if j < i then x j else if j < j then (x j + (p - x i) * s j) % p else x j) = _
        rw [if_neg (by omega), if_neg (Nat.lt_irrefl _)]
      rw [ei, nI_clamp (by omega), nI_clamp (by omega), s1, ej, pk_mul, nI_add, pk_rem (by omega) (by omega) (by omega)]
      refine ⟨vp_in_nI (by omega) (by decide), vp_in_nI (by omega) (by decide), nI_ne0 (by omega) (by omega), vp_in_nI (by omega) (by decide), hR hlt _ _ ⟨nI_1 j, by omega, fun u hu => ?_⟩⟩
      show _ = nI (if u < i then x u else if u < j + 1 then (x u + (p - x i) * s u) % p else x u)
      by_cases e : u = j
      · rw [e, pk_us, if_neg (by omega), if_pos (by omega)]
      · rw [pk_un e, hf u hu]
        show nI (if u < i then x u else if u < j then (x u + (p - x i) * s u) % p else x u) = _
        by_cases e2 : u < i
        · rw [if_pos e2, if_pos e2]
        · rw [if_neg e2, if_neg e2]
          by_cases e3 : u < j
          · rw [if_pos e3, if_pos (by omega)]
          · rw [if_neg e3, if_neg (by omega)]
theorem s_keepStep {p U i : Nat} {x : Nat → Nat} {eq st : Nat → Int32} {K : (Nat → Int32) → Prop} (hp : isP p) (hU : U ≤ 64) (hi : i < U) (hl : lbl eq U x) (hx : ∀ u, u < U → x u < p) (hx0 : x i ≠ 0)
    (h : ∀ st' f, f < p → x i * f % p = 1 → (∀ j, i ≤ j → j < U → st' (64 * i + j) = nI (x j * f % p)) → (∀ u j, u ≠ i → j < 64 → st' (64 * u + j) = st (64 * u + j)) → K st') : pX6_keepStep (nI U) (nI p) eq st (nI i) K := by
  obtain ⟨h2, h8⟩ := isP_lt hp
  have bi := hx i hi
  refine ⟨vp_in_nI (by omega) (by decide), ?_⟩
  rw [nI_clamp (by omega), hl i hi]
  refine s_inverse hp bi hx0 (fun f hf ef => ?_)
  refine lpW2_for U (fun j x3 g => x3 = nI j ∧ i ≤ j ∧ (∀ k, i ≤ k → k < j → g (64 * i + k) = nI (x k * f % p)) ∧ ∀ u k, u ≠ i → k < 64 → g (64 * u + k) = st (64 * u + k)) i (by omega) ⟨rfl, Nat.le_refl _, fun k h1 h2 => by omega, fun u k _ _ => rfl⟩ ?_
  rintro j hj x3 g ⟨rfl, hij, g1, g2⟩ R hR
  refine pk_le U j (fun hle => ?_) (fun hlt => ?_)
  · have e : j = U := by omega
    subst e
    exact h g f hf ef g1 g2
  · have bj := hx j hlt
    have hm : x j * f ≤ 7 * 7 := Nat.mul_le_mul (by omega) (by omega)
    have ei : nI i * 64 + nI j = nI (64 * i + j) := by rw [show (64 : Int32) = nI 64 from rfl, pk_mul, nI_add, Nat.mul_comm]
    rw [ei, nI_clamp (by omega), nI_clamp (by omega), hl j hlt, pk_mul, pk_rem (by omega) (by omega) (by omega)]
    refine ⟨vp_in_nI (by omega) (by decide), nI_ne0 (by omega) (by omega), vp_in_nI (by omega) (by decide), hR hlt _ _ ⟨nI_1 j, by omega, fun k k1 k2 => ?_, fun u k hu hk => ?_⟩⟩
    · by_cases e : k = j
      · rw [e, pk_us]
      · rw [pk_un (by omega)]
        exact g1 k k1 (by omega)
    · rw [pk_un (by omega)]
      exact g2 u k hu hk
theorem Wk_up' {p : Int} {U : Nat} {A : Nat → Nat → Int} {k : Nat} {x : Nat → Int} (h : Wk p U A k (fun u => A k u - x u)) : Wk p U A (k + 1) x :=
  Wk_eq (fun j _ => by show A k j - 1 * (A k j - x j) = x j; omega) (Wk_sub 1 (Wk_gen (Nat.lt_succ_self k)) (Wk_up h))
theorem s_bindsOne {p U k : Nat} {A : Nat → Nat → Int} {ld : Int64} {eq st : Nat → Int32} {L : Nat → Bool} {x0 : Nat → Nat} {K : Int32 → Int64 → (Nat → Int32) → (Nat → Int32) → Prop} (hp : isP p) (hU : U ≤ 64) (hst : stOk p U A k ld st L) (hl : lbl eq U x0) (hr : res p U x0 (A k))
    (h0 : ∀ eq', stOk p U A (k + 1) ld st L → K 0 ld eq' st) (h1 : ∀ l ld' eq' st', l < U → L l = false → stOk p U A (k + 1) ld' st' (fun u => if u = l then true else L u) → K 1 ld' eq' st') : pX6_bindsOne (nI U) (nI p) ld eq st K := by
  obtain ⟨h2, h8⟩ := isP_lt hp
  obtain ⟨t1, t2, t3⟩ := hst
  refine lpW2_for U (fun i x1 f => x1 = nI i ∧ ∃ x, lbl f U x ∧ (∀ u, u < U → x u < p) ∧ (∀ u, u < i → x u = 0) ∧ Wk p U A k (fun u => A k u - (x u : Int))) 0 (Nat.zero_le _) ⟨nI_0.symm, x0, hl, fun u hu => (hr u hu).1, fun u hu => absurd hu (Nat.not_lt_zero _), ?_⟩ ?_
  · refine Wk_cong (v := fun _ => 0) (fun u hu => ?_) Wk_zero
    exact dv_eq (by omega) (hr u hu).2
  · rintro i hi x1 f ⟨rfl, x, hf, hx, hz, hw⟩ R hR
    refine pk_le U i (fun hle => ?_) (fun hlt => ?_)
    · have e : i = U := by omega
      subst e
      have hA : Wk p i A k (A k) := Wk_eq (fun u hu => by rw [hz u hu]; omega) hw
      refine z0 (h0 f ⟨t1, fun u hu hLu => ?_, lead_same t3 hA⟩)
      obtain ⟨s, s1, s2, s3⟩ := t2 u hu hLu
      exact ⟨s, s1, s2, Wk_up s3⟩
    · have bi := hx i hlt
      refine ⟨vp_in_nI (by omega) (by decide), ?_⟩
      rw [nI_clamp (by omega), hf i hlt]
      refine pk_eq (x i) 0 (fun e => hR hlt _ _ ⟨nI_1 i, x, hf, hx, fun u hu => ?_, hw⟩) (fun e => ?_)
      · rcases Nat.lt_or_ge u i with q | q
        · exact hz u q
        · rw [show u = i by omega]
          exact e
      · have e64 : (lg_cmp ((ld >>> ((Int32.toInt64 (nI i)) &&& 63)) &&& (1 : Int64)) (0 : Int64)) = 0 ↔ L i = false := by
          rw [lg_cmp_eq, lg_tb ld (by omega), t1 i hlt]
        refine ⟨fun q => ?_, fun q => ?_⟩
        · have hLi : L i = true := by
            cases eL : L i with
            | true => rfl
            | false => exact absurd (e64.mpr eL) q
          obtain ⟨s, s1, s2, s3⟩ := t2 i hlt hLi
          refine s_clear h2 h8 hU hlt hf hx s1 (fun f' hf' => hR hlt _ _ ⟨nI_1 i, _, hf', fun u hu => ?_, fun u hu => ?_, ?_⟩)
          · show (if u < i then x u else (x u + (p - x i) * s u) % p) < p
            by_cases c : u < i
            · rw [if_pos c]
              exact hx u hu
            · rw [if_neg c]
              exact Nat.mod_lt _ (by omega)
          · show (if u < i then x u else (x u + (p - x i) * s u) % p) = 0
            rcases Nat.lt_or_ge u i with c | c
            · rw [if_pos c]
              exact hz u c
            · have eu : u = i := by omega
              rw [if_neg (by omega), eu, s2, Nat.mul_one, show x i + (p - x i) = p by omega, Nat.mod_self]
          · refine Wk_cong (fun u hu => ?_) (Wk_add hw (Wk_mul (x i : Int) s3))
            show (p : Int) ∣ (A k u - (x u : Int) + (x i : Int) * (if u < i then 0 else (s u : Int))) - (A k u - ((if u < i then x u else (x u + (p - x i) * s u) % p : Nat) : Int))
            by_cases c : u < i
            · rw [if_pos c, if_pos c]
              exact ⟨0, by omega⟩
            · rw [if_neg c, if_neg c]
              have hmod := mod_dv (p := p) ((x u + (p - x i) * s u : Nat) : Int)
              have hps : (p : Int) ∣ (p : Int) * (s u : Int) := Int.dvd_mul_right _ _
              have ec : (((p - x i) * s u : Nat) : Int) = (p : Int) * (s u : Int) - (x i : Int) * (s u : Int) := by
                rw [Int.natCast_mul, Int.natCast_sub (by omega), Int.sub_mul]
              refine dv_eq ?_ (Int.dvd_sub hps hmod)
              rw [Int.natCast_emod, Int.natCast_add, ec]
              omega
        · have hLi : L i = false := e64.mp q
          refine s_keepStep hp hU hlt hf hx e (fun st' g hg eg st1 st2 => z1 (h1 i _ f st' hlt hLi ⟨fun u hu => ?_, fun u hu hLu => ?_, fun v j hv hld => ?_⟩))
          · rw [lg_set ld (by omega) (by omega)]
            show (if u = i then true else ld.toBitVec.getLsbD u) = if u = i then true else L u
            by_cases c : u = i
            · rw [if_pos c, if_pos c]
            · rw [if_neg c, if_neg c, t1 u hu]
          · by_cases c : u = i
            · subst c
              refine ⟨fun j => x j * g % p, fun j j1 j2 => ⟨st1 j j1 j2, Nat.mod_lt _ (by omega)⟩, eg, ?_⟩
              refine Wk_cong (fun j hj => ?_) (Wk_mul (g : Int) (Wk_up' hw))
              show (p : Int) ∣ (g : Int) * (x j : Int) - (if j < u then 0 else ((x j * g % p : Nat) : Int))
              by_cases c2 : j < u
              · rw [if_pos c2, hz j c2]
                exact ⟨0, by omega⟩
              · rw [if_neg c2]
                have hmod := mod_dv (p := p) ((x j * g : Nat) : Int)
                refine dv_eq ?_ hmod
                rw [Int.natCast_emod, Int.natCast_mul, Int.mul_comm]
            · have hLu' : L u = true := by
                have : (if u = i then true else L u) = true := hLu
                rw [if_neg c] at this
                exact this
              obtain ⟨s, s1, s2, s3⟩ := t2 u hu hLu'
              exact ⟨s, fun j j1 j2 => by rw [st2 u j c (by omega)]; exact s1 j j1 j2, s2, Wk_up s3⟩
          · have hld' : ldg p U (fun u => (x u : Int)) i := ⟨hlt, fun z => e ((dv_small bi).mp z), fun j hj => by show (p : Int) ∣ (x j : Int); rw [hz j hj]; exact Int.dvd_zero _⟩
            show (if j = i then true else L j) = true
            rcases lead_add (L := fun j => L j = true) (isP_pme hp) t3 hld' (by rw [hLi]; exact Bool.false_ne_true) hw v j hv hld with z | z
            · by_cases c : j = i
              · rw [if_pos c]
              · rw [if_neg c]
                exact z
            · rw [if_pos z]
noncomputable def lct (p U : Nat) (A : Nat → Nat → Int) (k : Nat) : Nat := fb_ct (fun u => dB (LL p U A k u)) U
theorem stOk_ct {p U k : Nat} {A : Nat → Nat → Int} {ld : Int64} {st : Nat → Int32} {L : Nat → Bool} (hp : 2 ≤ p) (h : stOk p U A k ld st L) : fb_ct L U = lct p U A k := by
  obtain ⟨t1, t2, t3⟩ := h
  refine fb_ct_cong (fun u hu => ?_)
  cases e : L u with
  | true =>
    obtain ⟨s, s1, s2, s3⟩ := t2 u hu e
    refine (dB_t.mpr ⟨_, s3, hu, ?_, fun i hi => ?_⟩).symm
    · show ¬ (p : Int) ∣ if u < u then 0 else (s u : Int)
      rw [if_neg (Nat.lt_irrefl _), s2, dv_small (by omega)]
      decide
    · show (p : Int) ∣ if i < u then 0 else (s i : Int)
      rw [if_pos hi]
      exact Int.dvd_zero _
  | false => exact (dB_f.mpr (fun ⟨v, hv, hl⟩ => by rw [t3 v u hv hl] at e; cases e)).symm
theorem s_closedPower {p N : Nat} {T : Nat → Nat → Nat} {th un pr : Int32} {ld : Int64} {eq st cc : Nat → Int32} {K : Int32 → Int32 → Int32 → Int32 → Int64 → (Nat → Int32) → (Nat → Int32) → Prop} (ht : tab cc N T) (h1 : 1 ≤ N) (hN : N ≤ 8) (hp : isP p)
    (h : ∀ a b c d e f, K (nI (N * N - lct p (N * N) (fun e u => Av T N e (ro N u)) (N * N * N))) a b c d e f) : pX6_closedPower th un pr ld eq st (nI N) cc (nI p) K := by
  obtain ⟨h2, h8⟩ := isP_lt hp
  have h64 : N * N ≤ 64 := Nat.mul_le_mul hN hN
  unfold pX6_closedPower
  rw [pk_mul]
  let A : Nat → Nat → Int := fun e u => Av T N e (ro N u)
  let I : Nat → Int32 → Int64 → (Nat → Int32) → Prop := fun k x3 ld st => ∃ L, stOk p (N * N) A k ld st L ∧ x3 = nI (N * N - fb_ct L (N * N))
  have hI0 : I 0 (nI (N * N)) 0 st := by
    refine ⟨fun _ => false, ⟨fun u hu => ?_, fun u hu q => Bool.noConfusion q, fun v j hv hl => absurd (hv j hl.1) hl.2.1⟩, ?_⟩
    · have : ∀ u, u < 64 → (0 : Int64).toBitVec.getLsbD u = false := by decide +kernel
      exact this u (by omega)
    · rw [fb_ct_zero.mpr (fun _ _ => rfl)]
      rfl
  refine lpW5_for N (fun i x3 x4 ld f g => x4 = nI i ∧ I (i * N * N) x3 ld g) 0 (Nat.zero_le _) ⟨nI_0.symm, by rw [Nat.zero_mul, Nat.zero_mul]; exact hI0⟩ ?_
  rintro i hi x3 x4 ld f g ⟨rfl, hI⟩ R hR
  refine pk_le N i (fun hle => ?_) (fun hlt => ?_)
  · have e : i = N := by omega
    subst e
    obtain ⟨L, hL, rfl⟩ := hI
    rw [stOk_ct (by omega) hL]
    exact h _ _ _ _ _ _
  · refine lpW5_for N (fun j x3 x5 ld f g => x5 = nI j ∧ I ((i * N + j) * N) x3 ld g) 0 (Nat.zero_le _) ⟨nI_0.symm, hI⟩ ?_
    rintro j hj x3 x5 ld f g ⟨rfl, hI⟩ R2 hR2
    refine pk_le N j (fun hle => ?_) (fun hlt2 => ?_)
    · have e : j = N := by omega
      subst e
      refine hR hlt _ _ _ _ _ ⟨nI_1 i, ?_⟩
      rw [show (i + 1) * j * j = (i * j + j) * j by rw [Nat.add_mul i 1 j, Nat.one_mul]]
      exact hI
    · refine lpW5_for N (fun k x3 x6 ld f g => x6 = nI k ∧ I ((i * N + j) * N + k) x3 ld g) 0 (Nat.zero_le _) ⟨nI_0.symm, hI⟩ ?_
      rintro k hk x3 x6 ld f g ⟨rfl, L, hL, rfl⟩ R3 hR3
      refine pk_le N k (fun hle => ?_) (fun hlt3 => ?_)
      · have e : k = N := by omega
        subst e
        refine hR2 hlt2 _ _ _ _ _ ⟨nI_1 j, L, ?_, rfl⟩
        rw [show (i * k + (j + 1)) * k = (i * k + j) * k + k by rw [← Nat.add_assoc, Nat.add_mul (i * k + j) 1 k, Nat.one_mul]]
        exact hL
      · refine s_tellEquation ht hN h2 h8 hlt hlt2 hlt3 (fun eq' x hl hr => ?_)
        have hr' : res p (N * N) x (A ((i * N + j) * N + k)) := res_cong hr (fun u _ => by show _ = Av T N ((i * N + j) * N + k) (ro N u); rw [Av_at hlt2 hlt3])
        refine s_bindsOne hp h64 hL hl hr' (fun e' hs => y0 (hR3 hlt3 _ _ _ _ _ ⟨nI_1 k, L, hs, rfl⟩)) (fun l ld' e' st' hlU hLl hs => y1 (hR3 hlt3 _ _ _ _ _ ⟨nI_1 k, _, hs, ?_⟩))
        have hu := fb_ct_upd L true hlU
        rw [hLl] at hu
        simp only [Bool.false_eq_true, if_false, if_true, Nat.add_zero] at hu
        have hle := fb_ct_le (fun k => if k = l then true else L k) (N * N)
        rw [sb_m1 (by omega)]
        congr 1
        omega
