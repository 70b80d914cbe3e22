theorem n_negT {a : Nat} (h : a < 2 ^ 31) : (-nI a).toInt = -(a : Int) := sb_negT h
theorem op_letter {bw bl : Int32} {bd : Nat → Int32} {thr ms ml : Int32} {md : Nat → Int32} {x1 : Int32} (hb : RelB bw bl bd ms ml md) : pX10_letter bw bl bd x1 (fun r b d => pX11_letter thr ms ml md x1 (fun r' _ b' d' => r = r' ∧ RelB bw b d ms b' d')) := by
  obtain ⟨w, len, w2, w4, l24, rfl, rfl, rfl, rfl, hd⟩ := id hb
  have ew : nI w - 1 = nI (w - 1) := pk_sub (a := w) (b := 1) (by omega)
  have ew2 : (1 - nI w).toInt = 1 - (w : Int) := by
    have := pk_sub_toInt (a := 1) (b := w) (by decide) (by omega)
    exact this
  have et : (nI (w - 1)).toInt = (w : Int) - 1 := by rw [nI_toInt (by omega)]; omega
  have ent : (-nI (w - 1)).toInt = 1 - (w : Int) := by rw [n_negT (by omega)]; omega
  unfold pX10_letter
  rw [ew]
  have no : (x1 = 0 ∨ x1.toInt < 1 - (w : Int) ∨ (w : Int) - 1 < x1.toInt ∨ len = 24) → pX11_letter thr (nI w) (nI len) md x1 (fun r' _ b' d' => -1 = r' ∧ RelB (nI w) (nI len) bd (nI w) b' d') := by
    intro hn
    refine ⟨fun _ => ⟨rfl, hb⟩, fun c0 => ?_⟩
    rw [ew]
    refine s_in32 rfl rfl (fun q => y1 ?_) (fun q => y0 ⟨rfl, hb⟩)
    rw [ew2, et] at q
    have e24 : len = 24 := by
      rcases hn with e | e | e | e
      · exact absurd e c0
      · omega
      · omega
      · exact e
    subst e24
    exact ⟨fun c => absurd rfl c, fun _ => ⟨rfl, hb⟩⟩
  refine ⟨fun c => no (Or.inl c), fun c0 => ⟨fun c => no (Or.inr (Or.inl ?_)), fun c1 => ⟨fun c => no (Or.inr (Or.inr (Or.inl ?_))), fun c2 => ?_⟩⟩⟩
  · rw [i_lt, ent] at c
    exact c
  · rw [i_lt, et] at c
    exact c
  · refine pk_lt len 24 (fun hlt => ?_) (fun hge => no (Or.inr (Or.inr (Or.inr (by omega)))))
    refine pk_le 24 len (fun hle => absurd hle (by omega)) (fun _ => ⟨vp_in_nI hlt (by decide), ?_⟩)
    rw [i_lt, ent] at c1
    rw [i_lt, et] at c2
    refine ⟨fun c => absurd c c0, fun _ => ?_⟩
    rw [ew]
    refine s_in32 rfl rfl (fun q => y1 ?_) (fun q => absurd (by rw [ew2, et]; omega) q)
    refine ⟨fun _ => ⟨vp_in_nI hlt (by decide), rfl, w, len + 1, w2, w4, by omega, rfl, rfl, nI_1 len, nI_1 len, ?_⟩, fun c => absurd (nI_inj (b := 24) (by omega) (by decide) c) (by omega)⟩
    rw [nI_clamp (by omega)]
    intro i hi
    unfold upd
    by_cases e : i = len
    · rw [if_pos e, if_pos e]
      refine ⟨rfl, ?_⟩
      have hne : x1.toInt ≠ 0 := fun q => c0 (Int32.toInt_inj.mp (by rw [q]; rfl))
      rcases Int.lt_or_gt_of_ne hne with hneg | hpos
      · refine ⟨(-x1.toInt).toNat, by omega, by omega, Or.inr ?_⟩
        apply Int32.toInt_inj.mp
        rw [n_negT (by omega)]
        omega
      · refine ⟨x1.toInt.toNat, by omega, by omega, Or.inl ?_⟩
        apply Int32.toInt_inj.mp
        rw [nI_toInt (by omega)]
        omega
    · rw [if_neg e, if_neg e]
      exact hd i (by omega)
/-! what is told -/
theorem s_tell {n : Nat} {t : Nat → Int32} {x : Int32} {K : Int32 → (Nat → Int32) → Prop} (hn : n < 8) (h : K (nI (n + 1)) (upd t n x)) : pX10_tell (nI n) t x K := by
  refine pk_le 8 n (fun hle => absurd hle (by omega)) (fun _ => ⟨vp_in_nI hn (by decide), ?_⟩)
  rw [nI_clamp (by omega), show nI n + 1 = nI (n + 1) from nI_1 n]
  exact h
theorem trip_1 {a b c : Nat} (ha : a < 8) (hb : b < 8) (hc : c < 8) : nI ((8 * a + b) * 8 + c) / 64 = nI a := by
  rw [show (64 : Int32) = nI 64 from rfl, pk_div (by omega) (by decide) (by decide)]
  congr 1
  omega
theorem trip_2 {a b c : Nat} (ha : a < 8) (hb : b < 8) (hc : c < 8) : nI ((8 * a + b) * 8 + c) / 8 - nI ((8 * a + b) * 8 + c) / 8 / 8 * 8 = nI b := by
  rw [show (8 : Int32) = nI 8 from rfl, pk_div (by omega) (by decide) (by decide), pk_rem (by omega) (by decide) (by decide)]
  congr 1
  omega
theorem trip_3 {a b c : Nat} (ha : a < 8) (hb : b < 8) (hc : c < 8) : nI ((8 * a + b) * 8 + c) - nI ((8 * a + b) * 8 + c) / 8 * 8 = nI c := by
  rw [show (8 : Int32) = nI 8 from rfl, pk_rem (by omega) (by decide) (by decide)]
  congr 1
  omega
theorem s_tellTriple {n : Int32} {t : Nat → Int32} {a b c : Nat} {K : Int32 → (Nat → Int32) → Prop} (ha : a < 8) (hb : b < 8) (hc : c < 8) (h : K (nI 3) (upd (upd (upd t 0 (nI a)) 1 (nI b)) 2 (nI c))) : pX10_tellTriple n t (nI ((8 * a + b) * 8 + c)) K := by
  unfold pX10_tellTriple
  rw [trip_1 ha hb hc, trip_2 ha hb hc, trip_3 ha hb hc]
  exact ⟨by decide, s_tell (n := 0) (by decide) ⟨by decide, by decide, s_tell (by decide) ⟨by decide, s_tell (by decide) h⟩⟩⟩
theorem s_tells {n : Int32} {t : Nat → Int32} {a b c : Nat} {K : Int32 → (Nat → Int32) → Prop} (ha : a < 8) (hb : b < 8) (hc : c < 8) (h : K (nI 3) (upd (upd (upd t 0 (nI a)) 1 (nI b)) 2 (nI c))) : pX11_tells n t (nI ((8 * a + b) * 8 + c)) K := by
  unfold pX11_tells
  rw [trip_1 ha hb hc, trip_2 ha hb hc, trip_3 ha hb hc]
  exact ⟨by decide, pk_in 0 8 (by decide), by decide, by decide, pk_in 1 8 (by decide), by decide, pk_in 2 8 (by decide), h⟩
theorem relR_3 {t t' : Nat → Int32} {a b c : Int32} : RelR (nI 3) (upd (upd (upd t 0 a) 1 b) 2 c) (nI 3) (upd (upd (upd t' 0 a) 1 b) 2 c) := by
  refine ⟨3, by decide, rfl, rfl, fun i hi => ?_⟩
  rcases (show i = 0 ∨ i = 1 ∨ i = 2 by omega) with rfl | rfl | rfl <;> simp [upd]
theorem op_wrong {tc : Int32} {cn : Int32} {cc tt : Nat → Int32} {thr mn mr : Int32} {mrow mt : Nat → Int32} (h : RelT cn cc mn mt) (hr : RelR tc tt mr mrow) : pX10_wrong tc cn cc tt (fun r a b => pX11_wrong thr mn mr mrow mt (fun r' _ a' b' => r = r' ∧ RelR a b a' b')) := by
  obtain ⟨N, T, h1, h8, rfl, rfl, hx, hm⟩ := h
  refine s_torn hx h8 ?_
  cases e : torn T N with
  | some a =>
    have ha := torn_lt e
    refine ⟨fun q => absurd q (nI_neg (by omega)), fun _ => s_tell (n := 0) (by decide) ?_⟩
    refine s_uneven hm h8 ?_
    rw [e]
    refine ⟨fun q => absurd q (nI_pos (by omega)), fun _ => ⟨pk_in 0 8 (by decide), rfl, 1, by decide, rfl, rfl, fun i hi => ?_⟩⟩
    rcases (show i = 0 by omega) with rfl
    rfl
  | none =>
    refine ⟨fun _ => s_brk hx h8 ?_, fun q => absurd rfl q⟩
    cases e2 : brk T N with
    | some r =>
      obtain ⟨a, b, c', ha, hb, hc, rfl⟩ := brk_of e2
      refine ⟨fun q => absurd q (nI_neg (by omega)), fun _ => s_tellTriple (by omega) (by omega) (by omega) ?_⟩
      refine s_uneven hm h8 ?_
      rw [e]
      refine ⟨fun _ => s_unruly hm h8 ?_, fun q => absurd (by decide) q⟩
      rw [e2]
      exact ⟨fun q => absurd q (nI_pos (by omega)), fun _ => s_tells (by omega) (by omega) (by omega) ⟨rfl, relR_3⟩⟩
    | none =>
      refine ⟨fun _ => ?_, fun q => absurd rfl q⟩
      refine s_uneven hm h8 ?_
      rw [e]
      refine ⟨fun _ => s_unruly hm h8 ?_, fun q => absurd (by decide) q⟩
      rw [e2]
      exact ⟨fun _ => ⟨rfl, hr⟩, fun q => absurd (by decide) q⟩
/-! twists that aren't closed -/
def opnF (T : Nat → Nat → Nat) (v : Nat → Int32) (k : Int32) (a b c : Nat) : Option Nat :=
  if ((v (8 * b + c) + v (8 * a + T b c)) - (v (8 * a + c) + v (8 * T a b + T a c))) - ((v (8 * b + c) + v (8 * a + T b c)) - (v (8 * a + c) + v (8 * T a b + T a c))) / k * k = 0 then none else some ((8 * a + b) * 8 + c)
def opn (T : Nat → Nat → Nat) (N : Nat) (v : Nat → Int32) (k : Int32) : Option Nat := findO (fun a => findO (fun b => findO (fun c => opnF T v k a b c) N) N) N
theorem findO_cong {α : Type} {f g : Nat → Option α} : ∀ {n : Nat}, (∀ i, i < n → f i = g i) → findO f n = findO g n
  | 0, _ => rfl
  | n + 1, h => by rw [findO, findO, findO_cong (fun i hi => h i (by omega)), h n (by omega)]
theorem opn_of {T : Nat → Nat → Nat} {N r : Nat} {v : Nat → Int32} {k : Int32} (h : opn T N v k = some r) : ∃ a b c, a < N ∧ b < N ∧ c < N ∧ r = (8 * a + b) * 8 + c := by
  obtain ⟨a, ha, h1, -⟩ := findO_some h
  obtain ⟨b, hb, h2, -⟩ := findO_some h1
  obtain ⟨c, hc, h3, -⟩ := findO_some h2
  unfold opnF at h3
  split at h3
  · cases h3
  · cases h3
    exact ⟨a, b, c, ha, hb, hc, rfl⟩
theorem opn_cong {T : Nat → Nat → Nat} {N : Nat} {v v' : Nat → Int32} {k : Int32} (hT : ∀ a b, a < N → b < N → T a b < N) (hN : N ≤ 8) (h : ∀ j, j < 64 → v j = v' j) : opn T N v k = opn T N v' k := by
  refine findO_cong fun a ha => findO_cong fun b hb => findO_cong fun c hc => ?_
  have b1 := hT b c hb hc
  have b2 := hT a b ha hb
  have b3 := hT a c ha hc
  unfold opnF
  rw [h (8 * b + c) (by omega), h (8 * a + T b c) (by omega), h (8 * a + c) (by omega), h (8 * T a b + T a c) (by omega)]
theorem e_twistOf {c : Nat → Int32} {K : Int32 → Prop} {a b : Nat} (ha : a < 8) (hb : b < 8) (h : K (c (8 * a + b))) : pX11_twistOf c (nI a) (nI b) K := by
  unfold pX11_twistOf
  rw [ix8']
  exact ⟨vp_in_nI (by omega) (by decide), by rw [nI_clamp (by omega)]; exact h⟩
theorem s_opnX {c v : Nat → Int32} {N : Nat} {k : Int32} {T : Nat → Nat → Nat} {K : Int32 → Prop} (ht : tab c N T) (hN : N ≤ 8) (hk : ¬ k = 0) (h : K (oI (opn T N v k))) : pX9_firstOpenTriple k v (nI N) c K := by
  refine lpW1_for N (fun i x => x = nI i ∧ findO (fun a => findO (fun b => findO (fun c => opnF T v k a b c) N) N) i = none) 0 (Nat.zero_le _) ⟨nI_0.symm, rfl⟩ ?_
  rintro i hi x ⟨rfl, hI⟩ R hR
  refine pk_le N i (fun hle => ?_) (fun hlt => ?_)
  · have e : i = N := by omega
    subst e
    unfold opn at h
    rw [hI] at h
    exact h
  · refine lpW1_for N (fun j x => x = nI j ∧ findO (fun b => findO (fun c => opnF T v k i b c) N) j = none) 0 (Nat.zero_le _) ⟨nI_0.symm, rfl⟩ ?_
    rintro j hj x ⟨rfl, hJ⟩ R2 hR2
    refine pk_le N j (fun hle => ?_) (fun hlt2 => ?_)
    · have e : j = N := by omega
      subst e
      exact hR hlt _ ⟨nI_1 i, by rw [findO_step hI]; exact hJ⟩
    · refine lpW1_for N (fun l x => x = nI l ∧ findO (fun c => opnF T v k i j c) l = none) 0 (Nat.zero_le _) ⟨nI_0.symm, rfl⟩ ?_
      rintro l hl x ⟨rfl, hL⟩ R3 hR3
      refine pk_le N l (fun hle => ?_) (fun hlt3 => ?_)
      · have e : l = N := by omega
        subst e
        exact hR2 hlt2 _ ⟨nI_1 j, by rw [findO_step hJ]; exact hL⟩
      · have b1 := (ht j l hlt2 hlt3).2
        have b2 := (ht i j hlt hlt2).2
        have b3 := (ht i l hlt hlt3).2
        refine e_value (by omega) (by omega) (t_turned ht hN hlt2 hlt3 (e_value (by omega) (by omega) (e_value (by omega) (by omega) (t_turned ht hN hlt hlt2 (t_turned ht hN hlt hlt3 (e_value (by omega) (by omega) ⟨hk, ?_⟩))))))
        refine ⟨fun e => ?_, fun e => ?_⟩
        · exact hR3 hlt3 _ ⟨nI_1 l, by rw [findO_step hL]; simp [opnF, e]⟩
        · have e1 : findO (fun c => opnF T v k i j c) N = some ((8 * i + j) * 8 + l) := findO_hit hL (by simp [opnF, e]) N hlt3
          have e2 : findO (fun b => findO (fun c => opnF T v k i b c) N) N = some ((8 * i + j) * 8 + l) := findO_hit hJ e1 N hlt2
          have e3 : opn T N v k = some ((8 * i + j) * 8 + l) := findO_hit (f := fun a => findO (fun b => findO (fun c => opnF T v k a b c) N) N) hI e2 N hlt
          rw [e3] at h
          rw [n_trip]
          exact h
theorem s_opnM {c v : Nat → Int32} {N : Nat} {k : Int32} {T : Nat → Nat → Nat} {K : Int32 → Prop} (ht : tab c N T) (hN : N ≤ 8) (hk : ¬ k = 0) (h : K (oI (opn T N v k))) : pX11_open (nI N) k c v K := by
  refine lpW1_for N (fun i x => x = nI i ∧ findO (fun a => findO (fun b => findO (fun c => opnF T v k a b c) N) N) i = none) 0 (Nat.zero_le _) ⟨nI_0.symm, rfl⟩ ?_
  rintro i hi x ⟨rfl, hI⟩ R hR
  refine pk_le N i (fun hle => ?_) (fun hlt => ?_)
  · have e : i = N := by omega
    subst e
    unfold opn at h
    rw [hI] at h
    exact h
  · refine lpW1_for N (fun j x => x = nI j ∧ findO (fun b => findO (fun c => opnF T v k i b c) N) j = none) 0 (Nat.zero_le _) ⟨nI_0.symm, rfl⟩ ?_
    rintro j hj x ⟨rfl, hJ⟩ R2 hR2
    refine pk_le N j (fun hle => ?_) (fun hlt2 => ?_)
    · have e : j = N := by omega
      subst e
      exact hR hlt _ ⟨nI_1 i, by rw [findO_step hI]; exact hJ⟩
    · refine lpW1_for N (fun l x => x = nI l ∧ findO (fun c => opnF T v k i j c) l = none) 0 (Nat.zero_le _) ⟨nI_0.symm, rfl⟩ ?_
      rintro l hl x ⟨rfl, hL⟩ R3 hR3
      refine pk_le N l (fun hle => ?_) (fun hlt3 => ?_)
      · have e : l = N := by omega
        subst e
        exact hR2 hlt2 _ ⟨nI_1 j, by rw [findO_step hJ]; exact hL⟩
      · have b1 := (ht j l hlt2 hlt3).2
        have b2 := (ht i j hlt hlt2).2
        have b3 := (ht i l hlt hlt3).2
        refine e_twistOf (by omega) (by omega) (t_by ht hN hlt2 hlt3 (e_twistOf (by omega) (by omega) (e_twistOf (by omega) (by omega) (t_by ht hN hlt hlt2 (t_by ht hN hlt hlt3 (e_twistOf (by omega) (by omega) ⟨hk, ?_⟩))))))
        refine ⟨fun e => ?_, fun e => ?_⟩
        · exact hR3 hlt3 _ ⟨nI_1 l, by rw [findO_step hL]; simp [opnF, e]⟩
        · have e1 : findO (fun c => opnF T v k i j c) N = some ((8 * i + j) * 8 + l) := findO_hit hL (by simp [opnF, e]) N hlt3
          have e2 : findO (fun b => findO (fun c => opnF T v k i b c) N) N = some ((8 * i + j) * 8 + l) := findO_hit hJ e1 N hlt2
          have e3 : opn T N v k = some ((8 * i + j) * 8 + l) := findO_hit (f := fun a => findO (fun b => findO (fun c => opnF T v k a b c) N) N) hI e2 N hlt
          rw [e3] at h
          rw [n_trip]
          exact h
theorem op_closed {tc : Int32} {cn : Int32} {cc tt : Nat → Int32} {wm : Int32} {wv : Nat → Int32} {thr mn wm' mr : Int32} {mrow mt mv : Nat → Int32} (h : RelT cn cc mn mt) (hw : RelW wm wv wm' mv) (hr : RelR tc tt mr mrow) : pX10_closed tc cn cc tt wm wv (fun r a b => pX11_closed thr mn wm' mr mrow mt mv (fun r' _ a' b' => r = r' ∧ RelR a b a' b')) := by
  obtain ⟨N, T, h1, h8, rfl, rfl, hx, hm⟩ := h
  obtain ⟨k, k2, k7, rfl, rfl, hv⟩ := id hw
  have hk : ¬ nI k = 0 := nI_ne0 (by omega) (by omega)
  have ev : opn T N wv (nI k) = opn T N mv (nI k) := opn_cong (fun a b ha hb => (hx a b ha hb).2) h8 (fun j hj => (hv j hj).1)
  refine s_isRack hx h8 (fun rk => y1' ?_) (fun rk => y0' ?_)
  · refine s_opnX hx h8 hk ?_
    cases e : opn T N wv (nI k) with
    | some r =>
      obtain ⟨a, b, c', ha, hb, hc, rfl⟩ := opn_of e
      refine ⟨fun _ => s_tellTriple (by omega) (by omega) (by omega) ?_, fun q => absurd q (nI_neg (by omega))⟩
      refine s_isRackM hm h8 (fun _ => y1' ?_) (fun q => absurd rk q)
      refine s_opnM hm h8 hk ?_
      rw [← ev, e]
      exact ⟨fun _ => s_tells (by omega) (by omega) (by omega) ⟨rfl, relR_3⟩, fun q => absurd (nI_pos' (by omega)) q⟩
    | none =>
      refine ⟨fun q => absurd rfl q, fun _ => ?_⟩
      refine s_isRackM hm h8 (fun _ => y1' ?_) (fun q => absurd rk q)
      refine s_opnM hm h8 hk ?_
      rw [← ev, e]
      exact ⟨fun q => absurd q (by decide), fun _ => ⟨rfl, hr⟩⟩
  · exact s_isRackM hm h8 (fun q => absurd q rk) (fun _ => y0' ⟨rfl, hr⟩)
