/-! How many rows keep the table: place by place, or one by one. -/
noncomputable def dB (p : Prop) : Bool := @decide p (Classical.propDecidable p)
theorem dB_t {p : Prop} : dB p = true ↔ p := by
  unfold dB
  exact @decide_eq_true_iff p (Classical.propDecidable p)
theorem dB_f {p : Prop} : dB p = false ↔ ¬ p := by
  constructor
  · intro h q
    rw [dB_t.mpr q] at h
    cases h
  · intro h
    cases e : dB p with
    | false => rfl
    | true => exact absurd (dB_t.mp e) h
def goal (N : Nat) (T : Nat → Nat → Nat) (a b : Nat) : Prop := ∃ f, iso N T T f ∧ (∀ i, i < a → f i = i) ∧ f a = b
noncomputable def glB (N : Nat) (T : Nat → Nat → Nat) (a b : Nat) : Bool := dB (a ≤ b ∧ goal N T a b)
noncomputable def prd (N : Nat) (T : Nat → Nat → Nat) : Nat → Nat
  | 0 => 1
  | a + 1 => prd N T a * fb_ct (glB N T a) N
theorem msk_id {a b : Nat} (h : a ≤ b) : (msk (fun i => i) a).testBit b = false := by
  rw [← Bool.not_eq_true, msk_bit]
  rintro ⟨i, hi, e⟩
  have e' : i = b := e
  omega
theorem s_countKeepers {N : Nat} {T : Nat → Nat → Nat} {us : Int32} {im sh st cc : Nat → Int32} {K : Int32 → Int32 → (Nat → Int32) → (Nat → Int32) → (Nat → Int32) → Prop} (ht : tab cc N T) (hN : N ≤ 8) (h : ∀ us im sh st, K (nI (prd N T N)) us im sh st) : pX3_countKeepers us im sh st (nI N) cc K := by
  have hT := tab_T ht
  refine s_signs ht hN (fun sh' hsh => s_signs ht hN (fun st' hst => ?_))
  refine lpW4_for N (fun i x2 x3 us im => x3 = nI i ∧ x2 = nI (prd N T i) ∧ us = nI (msk (fun i => i) i) ∧ lbl im i (fun i => i)) 0 (Nat.zero_le _) ⟨nI_0.symm, rfl, nI_0.symm, fun k hk => absurd hk (Nat.not_lt_zero _)⟩ ?_
  rintro i hi x2 x3 us im ⟨rfl, rfl, rfl, him⟩ R hR
  refine pk_le N i (fun hle => ?_) (fun hlt => ?_)
  · have e : i = N := by omega
    subst e
    exact h _ _ _ _
  · have hm8 : msk (fun i => i) i < 256 := msk8 hN (fun k hk => by show k < N; omega)
    have hz : fb_ct (glB N T i) i = 0 := fb_ct_zero.mpr (fun k hk => dB_f.mpr (fun q => by omega))
    refine lpW4_for N (fun j x4 x5 us im => x5 = nI j ∧ i ≤ j ∧ x4 = nI (fb_ct (glB N T i) j) ∧ us = nI (msk (fun i => i) i) ∧ lbl im i (fun i => i)) i hi ⟨rfl, Nat.le_refl _, by rw [hz]; rfl, rfl, him⟩ ?_
    rintro j hj x4 x5 us im ⟨rfl, hij, rfl, rfl, him2⟩ R2 hR2
    refine pk_le N j (fun hle2 => ?_) (fun hlt2 => ?_)
    · have e : j = N := by omega
      subst e
      refine ⟨vp_in_nI (by omega) (by decide), hR hlt _ _ _ _ ⟨nI_1 i, ?_, ?_, ?_⟩⟩
      · rw [pk_mul]
        rfl
      · rw [n_bit (by omega), fa_or]
        rfl
      · rw [nI_clamp (by omega)]
        intro k hk
        by_cases e : k = i
        · rw [e, pk_us]
        · rw [pk_un e]
          exact him2 k (by omega)
    · have go0 : ∀ im', lbl im' i (fun i => i) → ¬ goal N T i j → R2 (nI (fb_ct (glB N T i) j)) (nI j + 1) (nI (msk (fun i => i) i)) im' := fun im' hl hno => hR2 hlt2 _ _ _ _ ⟨nI_1 j, by omega, by rw [fb_ct_succ, show glB N T i j = false from dB_f.mpr (fun q => hno q.2)]; rfl, rfl, hl⟩
      have go1 : ∀ im', lbl im' i (fun i => i) → goal N T i j → R2 (nI (fb_ct (glB N T i) j) + 1) (nI j + 1) (nI (msk (fun i => i) i)) im' := fun im' hl hy => hR2 hlt2 _ _ _ _ ⟨nI_1 j, by omega, by rw [fb_ct_succ, show glB N T i j = true from dB_t.mpr ⟨hij, hy⟩]; exact nI_1 _, rfl, hl⟩
      refine s_fits ht ht hN hm8 hlt hlt2 (fun k hk => by show k < N; omega) him2 hsh hst (fun hfit im' him' => y1 ?_) (fun hfit im' him' => y0 (go0 im' him' (fun ⟨f, q1, q2, q3⟩ => hfit (q3 ▸ fit_need hT q1 hlt q2))))
      refine s_goWith hN (s_canGoOn ht ht hN hsh hst 10 (i + 1) (by omega) (by omega)) hlt hlt2 him' (fun k hk => by show k < N; omega) (fun k l hkl hl => by show k ≠ l; omega) (msk_id hij) (fit_cons hfit) (fun q im2 him2 => y1 (go1 im2 (lbl_lo him2) ?_)) (fun q im2 him2 => y0 (go0 im2 (lbl_lo him2) (fun ⟨f, q1, q2, q3⟩ => q ⟨f, q1, fun k hk => ?_⟩)))
      · obtain ⟨f, q1, q2⟩ := q
        refine ⟨f, q1, fun k hk => ?_, ?_⟩
        · rw [q2 k (by omega)]
          unfold updN
          rw [if_neg (by omega)]
        · rw [q2 i (by omega)]
          unfold updN
          rw [if_pos rfl]
      · unfold updN
        by_cases e : k = i
        · rw [if_pos e, e, q3]
        · rw [if_neg e, q2 k (by omega)]
/-- those that move none of 0 .. a - 1 -/
noncomputable def stb (N : Nat) (T : Nat → Nat → Nat) (a p : Nat) : Bool := dB (iso N T T (pdg N p) ∧ ∀ i, i < a → pdg N p i = i)
theorem sm_if (q : Nat → Bool) (c : Nat) : ∀ n, fb_sm (fun b => if q b = true then c else 0) n = fb_ct q n * c
  | 0 => by simp [fb_sm, fb_ct]
  | n + 1 => by
    rw [fb_sm_succ, fb_ct_succ, sm_if q c n]
    cases q n <;> simp [Nat.add_mul]
theorem stb_N {N : Nat} {T : Nat → Nat → Nat} (hN : N ≤ 8) (hT : ∀ a b, a < N → b < N → T a b < N) : fb_ct (stb N T N) (fac N) = 1 := by
  have hp := fac_pos N
  have hu : fb_ct (fun k => if k = 0 then true else false) (fac N) + 0 = fb_ct (fun _ => false) (fac N) + 1 := fb_ct_upd (fun _ => false) true hp
  have hz : fb_ct (fun _ => false) (fac N) = 0 := fb_ct_zero.mpr (fun _ _ => rfl)
  have hc : fb_ct (stb N T N) (fac N) = fb_ct (fun k => if k = 0 then true else false) (fac N) := by
    refine fb_ct_cong (fun p hpp => ?_)
    by_cases e : p = 0
    · rw [if_pos e, e]
      refine dB_t.mpr ⟨iso_cong hT (fun i hi => (pdg_0 N hN i hi).symm) (iso_id N T), pdg_0 N hN⟩
    · rw [if_neg e]
      refine dB_f.mpr (fun q => e (pdg_one hN hpp hp (fun i hi => ?_)))
      rw [q.2 i hi, pdg_0 N hN i hi]
  rw [hc]
  omega
theorem stb_step {N a : Nat} {T : Nat → Nat → Nat} (hN : N ≤ 8) (hT : ∀ a b, a < N → b < N → T a b < N) (ha : a < N) : fb_ct (stb N T a) (fac N) = fb_ct (glB N T a) N * fb_ct (stb N T (a + 1)) (fac N) := by
  rw [← ct_by (p := stb N T a) (f := fun p => pdg N p a) (m := N) (fun p hp => pdg_lt hN hp ha), ← sm_if]
  refine fb_sm_cong (fun b hb => ?_)
  by_cases hg : glB N T a b = true
  · rw [if_pos hg]
    obtain ⟨hab, f0, w1, w2, w3⟩ := dB_t.mp hg
    have mk : ∀ p, p < fac N → ∀ h : Nat → Nat, iso N T T h → ∀ q, q = rnk N (fun i => h (pdg N p i)) → iso N T T (pdg N p) → q < fac N ∧ iso N T T (pdg N q) ∧ ∀ i, i < N → pdg N q i = h (pdg N p i) := by
      rintro p hp h hh q rfl hi
      have hc := iso_comp hT hi hh
      have e := pdg_rnk hN hc.1
      exact ⟨rnk_lt hc.1, iso_cong hT (fun i hi => (e i hi).symm) hc, e⟩
    have hinv := iso_inv hT w1
    refine Nat.le_antisymm ?_ ?_
    · refine ct_inj (φ := fun p => rnk N (fun i => inv N f0 (pdg N p i))) (fun p hp hP => ?_) (fun p q hp hq hP hQ e => ?_)
      · have hP' : stb N T a p = true ∧ pdg N p a = b := by simpa using hP
        obtain ⟨s1, s2⟩ := dB_t.mp hP'.1
        obtain ⟨m1, m2, m3⟩ := mk p hp _ hinv _ rfl s1
        refine ⟨m1, dB_t.mpr ⟨m2, fun i hi => ?_⟩⟩
        rw [m3 i (by omega)]
        rcases Nat.lt_or_ge i a with q | q
        · rw [s2 i q]
          have := inv_f w1.1 (show i < N by omega)
          rw [w2 i q] at this
          exact this
        · have e : i = a := by omega
          rw [e, hP'.2, ← w3]
          exact inv_f w1.1 ha
      · have hP' : stb N T a p = true ∧ pdg N p a = b := by simpa using hP
        have hQ' : stb N T a q = true ∧ pdg N q a = b := by simpa using hQ
        obtain ⟨m1, m2, m3⟩ := mk p hp _ hinv _ rfl (dB_t.mp hP'.1).1
        obtain ⟨n1, n2, n3⟩ := mk q hq _ hinv _ rfl (dB_t.mp hQ'.1).1
        refine pdg_one hN hp hq (fun i hi => ?_)
        have e1 := m3 i hi
        have e2 := n3 i hi
        have e' : rnk N (fun i => inv N f0 (pdg N p i)) = rnk N (fun i => inv N f0 (pdg N q i)) := e
        rw [e'] at e1
        rw [e1] at e2
        exact pm_inj hinv.1 (pdg_lt hN hp hi) (pdg_lt hN hq hi) e2
    · refine ct_inj (φ := fun p => rnk N (fun i => f0 (pdg N p i))) (fun p hp hP => ?_) (fun p q hp hq hP hQ e => ?_)
      · obtain ⟨s1, s2⟩ := dB_t.mp hP
        obtain ⟨m1, m2, m3⟩ := mk p hp _ w1 _ rfl s1
        refine ⟨m1, ?_⟩
        have t1 : stb N T a (rnk N (fun i => f0 (pdg N p i))) = true := dB_t.mpr ⟨m2, fun i hi => by rw [m3 i (by omega), s2 i (by omega), w2 i hi]⟩
        have t2 : pdg N (rnk N (fun i => f0 (pdg N p i))) a = b := by rw [m3 a ha, s2 a (by omega), w3]
        simp [t1, t2]
      · obtain ⟨m1, m2, m3⟩ := mk p hp _ w1 _ rfl (dB_t.mp hP).1
        obtain ⟨n1, n2, n3⟩ := mk q hq _ w1 _ rfl (dB_t.mp hQ).1
        refine pdg_one hN hp hq (fun i hi => ?_)
        have e1 := m3 i hi
        have e2 := n3 i hi
        have e' : rnk N (fun i => f0 (pdg N p i)) = rnk N (fun i => f0 (pdg N q i)) := e
        rw [e'] at e1
        rw [e1] at e2
        exact pm_inj w1.1 (pdg_lt hN hp hi) (pdg_lt hN hq hi) e2
  · rw [if_neg hg]
    refine fb_ct_zero.mpr (fun p hp => ?_)
    cases e : (stb N T a p && pdg N p a == b) with
    | false => rfl
    | true =>
      exfalso
      have e' : stb N T a p = true ∧ pdg N p a = b := by simpa using e
      obtain ⟨s1, s2⟩ := dB_t.mp e'.1
      refine hg (dB_t.mpr ⟨?_, pdg N p, s1, s2, e'.2⟩)
      rcases Nat.lt_or_ge b a with q | q
      · have := pm_inj s1.1 hb ha (by rw [s2 b q, e'.2])
        omega
      · exact q
theorem prd_all {N : Nat} {T : Nat → Nat → Nat} (hN : N ≤ 8) (hT : ∀ a b, a < N → b < N → T a b < N) : prd N T N = fb_ct (fun p => dB (iso N T T (pdg N p))) (fac N) := by
  have key : ∀ a, a ≤ N → prd N T a * fb_ct (stb N T a) (fac N) = fb_ct (stb N T 0) (fac N) := by
    intro a
    induction a with
    | zero => intro _; rw [prd, Nat.one_mul]
    | succ a ih =>
      intro ha
      rw [prd, Nat.mul_assoc, ← stb_step hN hT (by omega)]
      exact ih (by omega)
  have h := key N (Nat.le_refl _)
  rw [stb_N hN hT, Nat.mul_one] at h
  rw [h]
  refine fb_ct_cong (fun p hp => ?_)
  cases e : dB (iso N T T (pdg N p)) with
  | true => exact dB_t.mpr ⟨dB_t.mp e, fun i hi => absurd hi (Nat.not_lt_zero _)⟩
  | false => exact dB_f.mpr (fun q => dB_f.mp e q.1)
theorem op_keepers {cn : Int32} {cc : Nat → Int32} {us : Int32} {im sh st : Nat → Int32} {thr mn : Int32} {mf mt : Nat → Int32} (h : RelT cn cc mn mt) :
    pX10_keepers cn cc us im sh st (fun r _ _ _ _ => pX11_keepers thr mn mf mt (fun r' _ _ => r = r')) := by
  obtain ⟨N, T, h1, h8, rfl, rfl, hx, hm⟩ := h
  have hT := tab_T hx
  have fl := fac_le N h8
  refine s_countKeepers hx h8 (fun us' im' sh' st' => ?_)
  rw [prd_all h8 hT]
  refine lpW3_for (fac N) (fun p x1 x2 f => x2 = nI p ∧ x1 = nI (fb_ct (fun p => dB (iso N T T (pdg N p))) p)) 0 (Nat.zero_le _) ⟨nI_0.symm, nI_0.symm⟩ ?_
  rintro p hp x1 x2 f ⟨rfl, rfl⟩ R hR
  refine s_factorial h8 ?_ 10 (by omega)
  refine pk_le (fac N) p (fun hle => ?_) (fun hlt => ?_)
  · have e : p = fac N := by omega
    rw [e]
  · refine s_permutation (by omega) (by decide) h1 h8 hlt ?_
    refine s_makes (o := 0) hm (by simpa using hm) h8 (by omega) (by decide) rfl (fun i hi => fa_fill_in hi) (pdg_pm h8 hlt) (fun w => y1 (hR hlt _ _ _ ⟨nI_1 p, ?_⟩)) (fun w => y0 (hR hlt _ _ _ ⟨nI_1 p, ?_⟩))
    · rw [fb_ct_succ, show dB (iso N T T (pdg N p)) = true from dB_t.mpr w]
      exact nI_1 _
    · rw [fb_ct_succ, show dB (iso N T T (pdg N p)) = false from dB_f.mpr w]
      exact Int32.add_zero _
