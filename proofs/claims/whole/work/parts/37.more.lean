/-! Contraries, products, covers, the sets that are closed. -/
def lst (f : Nat → Nat) (v : Nat) : Nat → Nat
  | 0 => 0
  | n + 1 => if f n = v then n else lst f v n
theorem lst_ok {f : Nat → Nat} {v : Nat} : ∀ {n : Nat}, (∃ b, b < n ∧ f b = v) → lst f v n < n ∧ f (lst f v n) = v
  | 0, h => by
    obtain ⟨b, hb, -⟩ := h
    exact absurd hb (Nat.not_lt_zero _)
  | n + 1, h => by
    unfold lst
    by_cases e : f n = v
    · rw [if_pos e]
      exact ⟨by omega, e⟩
    · rw [if_neg e]
      obtain ⟨b, hb, eb⟩ := h
      have : b ≠ n := fun q => e (q ▸ eb)
      obtain ⟨h1, h2⟩ := lst_ok (f := f) (v := v) (n := n) ⟨b, by omega, eb⟩
      exact ⟨by omega, h2⟩
theorem torn_onto {T : Nat → Nat → Nat} {N : Nat} (hT : ∀ a b, a < N → b < N → T a b < N) (h : torn T N = none) {a v : Nat} (ha : a < N) (hv : v < N) : ∃ b, b < N ∧ T a b = v := by
  have h1 := findO_none.mp h a ha
  unfold tornF at h1
  split at h1
  · rename_i e
    exact (msk_all (fun i hi => hT a i ha hi)).mp e v hv
  · cases h1
theorem tab_T {c : Nat → Int32} {N : Nat} {T : Nat → Nat → Nat} (ht : tab c N T) : ∀ a b, a < N → b < N → T a b < N := fun a b ha hb => (ht a b ha hb).2
/-- 'put at f j the number j' for all j below n -/
theorem put_lst {f : Nat → Nat} {g : Nat → Int32} {o n : Nat} (h : ∀ v, (∃ b, b < n ∧ f b = v) → g (o + v) = nI (lst f v n)) : ∀ v, (∃ b, b < n + 1 ∧ f b = v) → upd g (o + f n) (nI n) (o + v) = nI (lst f v (n + 1)) := by
  intro v hv
  unfold upd lst
  by_cases e : f n = v
  · rw [if_pos (by omega), if_pos e]
  · rw [if_neg (by omega), if_neg e]
    obtain ⟨b, hb, eb⟩ := hv
    have : b ≠ n := fun q => e (q ▸ eb)
    exact h v ⟨b, by omega, eb⟩
theorem s_makeContrary {dn : Int32} {dc c : Nat → Int32} {N : Nat} {T : Nat → Nat → Nat} {K : Int32 → (Nat → Int32) → Prop} (ht : tab c N T) (hN : N ≤ 8) (h : ∀ dc', (∀ a v, a < N → (∃ b, b < N ∧ T a b = v) → dc' (8 * a + v) = nI (lst (T a) v N)) → K (nI N) dc') : pX7_makeContrary dn dc (nI N) c K := by
  refine lpW2_for N (fun a x f => x = nI a ∧ ∀ a' v, a' < a → (∃ b, b < N ∧ T a' b = v) → f (8 * a' + v) = nI (lst (T a') v N)) 0 (Nat.zero_le _) ⟨nI_0.symm, fun a' v ha' => absurd ha' (Nat.not_lt_zero _)⟩ ?_
  rintro a ha x f ⟨rfl, hI⟩ R hR
  refine pk_le N a (fun hle => ?_) (fun hlt => ?_)
  · have e : a = N := by omega
    subst e
    exact h f hI
  · refine lpW2_for N (fun j x g => x = nI j ∧ (∀ a' v, a' < a → (∃ b, b < N ∧ T a' b = v) → g (8 * a' + v) = nI (lst (T a') v N)) ∧ ∀ v, (∃ b, b < j ∧ T a b = v) → g (8 * a + v) = nI (lst (T a) v j)) 0 (Nat.zero_le _) ⟨nI_0.symm, hI, fun v ⟨b, hb, _⟩ => absurd hb (Nat.not_lt_zero _)⟩ ?_
    rintro j hj x g ⟨rfl, hG, hJ⟩ R2 hR2
    refine pk_le N j (fun hle => ?_) (fun hlt2 => ?_)
    · have e : j = N := by omega
      subst e
      refine hR hlt _ _ ⟨nI_1 a, fun a' v ha' hv => ?_⟩
      rcases Nat.lt_or_ge a' a with q | q
      · exact hG a' v q hv
      · rw [show a' = a by omega] at hv ⊢
        exact hJ v hv
    · have hb := (ht a j hlt hlt2).2
      refine t_turned ht hN hlt hlt2 (e_put (by omega) (by omega) (hR2 hlt2 _ _ ⟨nI_1 j, fun a' v ha' hv => ?_, put_lst hJ⟩))
      have hv8 : v < N := by
        obtain ⟨b, hb2, eb⟩ := hv
        rw [← eb]
        exact (ht a' b (by omega) hb2).2
      unfold upd
      rw [if_neg (by omega)]
      exact hG a' v ha' hv
def dualT (T : Nat → Nat → Nat) (N a v : Nat) : Nat := lst (T a) v N
theorem op_dual {cn : Int32} {cc : Nat → Int32} {dn : Int32} {dc : Nat → Int32} {wm : Int32} {wv : Nat → Int32} {thr mn : Int32} {mg mt : Nat → Int32} {wm' : Int32} {mv : Nat → Int32} (h : RelT cn cc mn mt) (hw : RelW wm wv wm' mv) :
    pX10_dual cn cc dn dc wv (fun r cn' cc' _ _ wv' => pX11_dual thr mn mg mt mv (fun r' _ _ mt' mv' => r = r' ∧ RelT cn' cc' mn mt' ∧ RelW wm wv' wm' mv')) := by
  obtain ⟨N, T, h1, h8, rfl, rfl, hx, hm⟩ := id h
  refine s_torn hx h8 ?_
  cases e : torn T N with
  | some a =>
    have ha := torn_lt e
    refine ⟨fun q => absurd q (nI_neg (by omega)), fun _ => z0 ?_⟩
    refine s_uneven hm h8 ?_
    rw [e]
    exact ⟨fun q => absurd q (nI_pos (by omega)), fun _ => z0 ⟨rfl, h, hw⟩⟩
  | none =>
    have on : ∀ a v, a < N → v < N → ∃ b, b < N ∧ T a b = v := fun a v ha hv => torn_onto (tab_T hx) e ha hv
    refine ⟨fun _ => s_makeContrary hx h8 (fun dc' hdc => s_adopt (z1 ?_)), fun q => absurd rfl q⟩
    refine s_uneven hm h8 ?_
    rw [e]
    refine ⟨fun _ => s_straight ?_, fun q => absurd (by decide) q⟩
    refine lpW3_for N (fun a x g t => x = nI a ∧ (∀ a' v, a' < a → v < N → t (8 * a' + v) = nI (dualT T N a' v)) ∧ ∀ a' v, a ≤ a' → a' < N → v < N → t (8 * a' + v) = nI (T a' v)) 0 (Nat.zero_le _) ⟨nI_0.symm, fun a' v ha' => absurd ha' (Nat.not_lt_zero _), fun a' v _ ha' hv => (hm a' v ha' hv).1⟩ ?_
    rintro a ha x g t ⟨rfl, hI, hL⟩ R hR
    refine pk_le N a (fun hle => ?_) (fun hlt => ?_)
    · have ea : a = N := by omega
      subst ea
      refine z1 ⟨rfl, ⟨a, dualT T a, h1, h8, rfl, rfl, tab_cpy (fun i v hi hv => ⟨hdc i v hi (on i v hi hv), (lst_ok (on i v hi hv)).1⟩) h8, fun i v hi hv => ⟨hI i v hi hv, (lst_ok (on i v hi hv)).1⟩⟩, relW_flat' hw⟩
    · refine lpW2_for N (fun j x g => x = nI j ∧ ∀ v, (∃ b, b < j ∧ T a b = v) → g (0 + v) = nI (lst (T a) v j)) 0 (Nat.zero_le _) ⟨nI_0.symm, fun v ⟨b, hb, _⟩ => absurd hb (Nat.not_lt_zero _)⟩ ?_
      rintro j hj x g ⟨rfl, hJ⟩ R2 hR2
      refine pk_le N j (fun hle => ?_) (fun hlt2 => ?_)
      · have ej : j = N := by omega
        subst ej
        refine lpW2_for j (fun i x t' => x = nI i ∧ t' = fb_put t g (8 * a) i) 0 (Nat.zero_le _) ⟨nI_0.symm, (fb_put_0 _ _ _).symm⟩ ?_
        rintro i hi x t' ⟨rfl, rfl⟩ R3 hR3
        refine pk_le j i (fun hle => ?_) (fun hlt3 => ?_)
        · have ei : i = j := by omega
          subst ei
          refine hR hlt _ _ _ ⟨nI_1 a, fun a' v ha' hv => ?_, fun a' v ha' ha2 hv => ?_⟩
          · rcases Nat.lt_or_ge a' a with q | q
            · rw [fb_put_out (by omega)]
              exact hI a' v q hv
            · rw [show a' = a by omega, fb_put_in (by omega) (by omega), show 8 * a + v - 8 * a = v by omega]
              have := hJ v (on a v hlt hv)
              rw [Nat.zero_add] at this
              exact this
          · rw [fb_put_out (by omega)]
            exact hL a' v (by omega) ha2 hv
        · rw [ix8', nI_clamp (by omega), nI_clamp (by omega)]
          exact ⟨vp_in_nI (by omega) (by decide), vp_in_nI (by omega) (by decide), hR3 hlt3 _ _ ⟨nI_1 i, fb_put_succ t g (8 * a) i⟩⟩
      · have hb := (hm a j hlt hlt2).2
        refine e_by (by omega) (by omega) ?_
        rw [hL a j (Nat.le_refl _) hlt hlt2]
        refine ⟨vp_in_nI (by omega) (by decide), hR2 hlt2 _ _ ⟨nI_1 j, ?_⟩⟩
        rw [nI_clamp (by omega)]
        have := put_lst (o := 0) hJ
        rw [Nat.zero_add] at this
        exact this
theorem s_becomes {n x : Int32} {md mt mv : Nat → Int32} {K : Int32 → (Nat → Int32) → (Nat → Int32) → Prop} (h : K x (fa_fill md mt 64) (fa_fill (fun _ => 0) mv 64)) : pX11_becomes n md mt mv x K := by
  refine s_straight ?_
  refine lpW2_for 64 (fun i a f => a = nI i ∧ f = fa_fill md mt i) 0 (Nat.zero_le _) ⟨nI_0.symm, (fa_fill_0 _ _).symm⟩ ?_
  rintro i hi a f ⟨rfl, rfl⟩ R hR
  refine pk_le 64 i (fun hle => ?_) (fun hlt => ?_)
  · have e : i = 64 := by omega
    subst e
    exact h
  · refine ⟨vp_in_nI hlt (by decide), vp_in_nI hlt (by decide), hR hlt _ _ ⟨nI_1 i, ?_⟩⟩
    rw [nI_clamp (by omega)]
    exact fa_fill_succ md mt i
theorem tab_fill {c d : Nat → Int32} {N : Nat} {T : Nat → Nat → Nat} (ht : tab c N T) (hN : N ≤ 8) : tab (fa_fill c d 64) N T := by
  intro a b ha hb
  rw [fa_fill_in (by omega)]
  exact ht a b ha hb
/-- a square of numbers, filled row by row -/
def sqd (M i : Nat) (f : Nat → Int32) (T : Nat → Nat → Nat) : Prop := ∀ a b, a < i → b < M → f (8 * a + b) = nI (T a b)
theorem sqd_row {M i : Nat} {f g : Nat → Int32} {T : Nat → Nat → Nat} (hM : M ≤ 8) (h : sqd M i f T) (hg : g = fb_put f (fun j => nI (T i j)) (8 * i) M) : sqd M (i + 1) g T := by
  subst hg
  intro a b ha hb
  rcases Nat.lt_or_ge a i with q | q
  · rw [fb_put_out (by omega)]
    exact h a b q hb
  · rw [show a = i by omega, fb_put_in (by omega) (by omega), show 8 * i + b - 8 * i = b by omega]
theorem div_lt_of {i m N : Nat} (hm : 1 ≤ m) (h : i < N * m) : i / m < N := (Nat.div_lt_iff_lt_mul (by omega)).mpr h
def timT (T T' : Nat → Nat → Nat) (m i j : Nat) : Nat := m * T (i / m) (j / m) + T' (i % m) (j % m)
theorem timT_lt {T T' : Nat → Nat → Nat} {N m i j : Nat} (hm : 1 ≤ m) (h1 : T (i / m) (j / m) < N) (h2 : T' (i % m) (j % m) < m) : timT T T' m i j < N * m := by
  unfold timT
  have : m * (T (i / m) (j / m) + 1) ≤ m * N := Nat.mul_le_mul_left m h1
  rw [Nat.mul_add, Nat.mul_one] at this
  rw [Nat.mul_comm N m]
  omega
theorem op_times {cn : Int32} {cc : Nat → Int32} {dn : Int32} {dc : Nat → Int32} {kn : Nat → Int32} {kc : Nat → Nat → Int32} {wm : Int32} {wv : Nat → Int32} {thr mn : Int32} {mk mm md mt : Nat → Int32} {wm' : Int32} {mv : Nat → Int32} {x1 : Int32} (h : RelT cn cc mn mt) (hk : RelK kn kc mm mk) (hw : RelW wm wv wm' mv) :
    pX10_times cn cc dn dc kn kc wv x1 (fun r cn' cc' _ _ wv' => pX11_times thr mn mk mm md mt mv x1 (fun r' _ mn' _ mt' mv' => r = r' ∧ RelT cn' cc' mn' mt' ∧ RelW wm wv' wm' mv')) := by
  refine s_isFilled (relK_x hk) (fun k m hk4 ex em h1m h8m => y1 ?_) (fun hn => y0 ?_)
  · subst ex
    obtain ⟨m', T', m8, e1, e2, t1, t2⟩ := hk k hk4
    have : m = m' := nI_inj (by omega) (by omega) (em.symm.trans e1)
    subst this
    obtain ⟨N, T, h1, h8, rfl, rfl, hx, hm⟩ := id h
    have hNm : N * m ≤ 64 := Nat.mul_le_mul h8 h8m
    rw [nI_clamp (by omega), e1, pk_mul]
    refine ⟨vp_in_nI hk4 (by decide), ?_⟩
    refine pk_le (N * m) 8 (fun hle => ⟨vp_in_nI hk4 (by decide), ?_⟩) (fun hgt => ?_)
    · have hTT : ∀ i j, i < N * m → j < N * m → timT T T' m i j < N * m := fun i j hi hj => timT_lt h1m (hx _ _ (div_lt_of h1m hi) (div_lt_of h1m hj)).2 (t1 _ _ (Nat.mod_lt _ (by omega)) (Nat.mod_lt _ (by omega))).2
      have hme : ¬ nI m = 0 := nI_ne0 (by omega) (by omega)
      refine lpW2_for (N * m) (fun i x f => x = nI i ∧ sqd (N * m) i f (timT T T' m)) 0 (Nat.zero_le _) ⟨nI_0.symm, fun a b ha => absurd ha (Nat.not_lt_zero _)⟩ ?_
      rintro i hi x f ⟨rfl, hI⟩ R hR
      refine pk_le (N * m) i (fun hle => ?_) (fun hlt => ?_)
      · have ei : i = N * m := by omega
        refine s_adopt ?_
        refine s_isKept (relK_m hk) (fun k' m' _ ek _ _ _ => y1 ?_) (fun hn => absurd (hn k m hk4 rfl e2 h1m h8m) id)
        rw [nI_clamp (by omega), e2, pk_mul]
        refine ⟨vp_in_nI hk4 (by decide), ?_⟩
        refine pk_le (N * m) 8 (fun hle => ⟨vp_in_nI hk4 (by decide), ?_⟩) (fun hgt => absurd hgt (by omega))
        refine lpW2_for (N * m) (fun i x f => x = nI i ∧ sqd (N * m) i f (timT T T' m)) 0 (Nat.zero_le _) ⟨nI_0.symm, fun a b ha => absurd ha (Nat.not_lt_zero _)⟩ ?_
        rintro i2 hi2 x g ⟨rfl, hI2⟩ R2 hR2
        refine pk_le (N * m) i2 (fun hle => ?_) (fun hlt2 => ?_)
        · have ei2 : i2 = N * m := by omega
          refine s_becomes ⟨rfl, ⟨N * m, timT T T' m, Nat.mul_pos h1 h1m, by omega, rfl, rfl, tab_cpy (fun a b ha hb => ⟨hI a b (by omega) hb, hTT a b ha hb⟩) (by omega), tab_fill (fun a b ha hb => ⟨hI2 a b (by omega) hb, hTT a b ha hb⟩) (by omega)⟩, relW_flat' hw⟩
        · refine lpW2_for (N * m) (fun j x g' => x = nI j ∧ g' = fb_put g (fun j => nI (timT T T' m i2 j)) (8 * i2) j) 0 (Nat.zero_le _) ⟨nI_0.symm, (fb_put_0 _ _ _).symm⟩ ?_
          rintro j hj x g' ⟨rfl, rfl⟩ R3 hR3
          refine pk_le (N * m) j (fun hle => ?_) (fun hlt3 => ?_)
          · have ej : j = N * m := by omega
            exact hR2 hlt2 _ _ ⟨nI_1 i2, sqd_row (by omega) hI2 (by rw [ej])⟩
          · have a1 := div_lt_of h1m hlt2
            have a2 := div_lt_of h1m hlt3
            have b1 : i2 % m < m := Nat.mod_lt _ (by omega)
            have b2 : j % m < m := Nat.mod_lt _ (by omega)
            rw [pk_div (by omega) (by omega) (by omega), pk_div (by omega) (by omega) (by omega)]
            refine ⟨hme, hme, t_by hm h8 a1 a2 ⟨hme, hme, ?_⟩⟩
            rw [← pk_div (a := i2) (d := m) (by omega) (by omega) (by omega), ← pk_div (a := j) (d := m) (by omega) (by omega) (by omega), pk_rem (by omega) (by omega) (by omega), pk_rem (by omega) (by omega) (by omega)]
            rw [show (64 : Int32) * nI k + 8 * nI (i2 % m) + nI (j % m) = nI (64 * k + (8 * (i2 % m) + j % m)) from by rw [show (64 : Int32) = nI 64 from rfl, show (8 : Int32) = nI 8 from rfl, pk_mul, pk_mul, nI_add, nI_add, Nat.add_assoc]]
            rw [ix8', nI_clamp (by omega), nI_clamp (by omega)]
            refine ⟨vp_in_nI (by omega) (by decide), vp_in_nI (by omega) (by decide), hR3 hlt3 _ _ ⟨nI_1 j, ?_⟩⟩
            rw [show mk (64 * k + (8 * (i2 % m) + j % m)) = _ from (t2 _ _ b1 b2).1, pk_mul, nI_add]
            exact fb_put_succ g (fun j => nI (timT T T' m i2 j)) (8 * i2) j
      · refine lpW2_for (N * m) (fun j x g' => x = nI j ∧ g' = fb_put f (fun j => nI (timT T T' m i j)) (8 * i) j) 0 (Nat.zero_le _) ⟨nI_0.symm, (fb_put_0 _ _ _).symm⟩ ?_
        rintro j hj x g' ⟨rfl, rfl⟩ R3 hR3
        refine pk_le (N * m) j (fun hle => ?_) (fun hlt3 => ?_)
        · have ej : j = N * m := by omega
          exact hR hlt _ _ ⟨nI_1 i, sqd_row (by omega) hI (by rw [ej])⟩
        · have a1 := div_lt_of h1m hlt
          have a2 := div_lt_of h1m hlt3
          have b1 : i % m < m := Nat.mod_lt _ (by omega)
          have b2 : j % m < m := Nat.mod_lt _ (by omega)
          rw [pk_div (by omega) (by omega) (by omega), pk_div (by omega) (by omega) (by omega)]
          refine ⟨hme, hme, t_turned hx h8 a1 a2 ⟨hme, hme, ?_⟩⟩
          rw [← pk_div (a := i) (d := m) (by omega) (by omega) (by omega), ← pk_div (a := j) (d := m) (by omega) (by omega) (by omega), pk_rem (by omega) (by omega) (by omega), pk_rem (by omega) (by omega) (by omega)]
          refine t_turned t1 h8m b1 b2 (e_put (by omega) (by omega) (hR3 hlt3 _ _ ⟨nI_1 j, ?_⟩))
          rw [pk_mul, nI_add]
          exact fb_put_succ f (fun j => nI (timT T T' m i j)) (8 * i) j
    · refine s_isKept (relK_m hk) (fun k' m' _ ek _ _ _ => y1 ?_) (fun hn => absurd (hn k m hk4 rfl e2 h1m h8m) id)
      rw [nI_clamp (by omega), e2, pk_mul]
      exact ⟨vp_in_nI hk4 (by decide), pk_le (N * m) 8 (fun hle => absurd hle (by omega)) (fun _ => ⟨rfl, h, hw⟩)⟩
  · exact s_isKept (relK_m hk) (fun k m hk4 ex em h1 h8 => absurd (relK_no hk hn k m hk4 ex em h1 h8) id) (fun _ => y0 ⟨rfl, h, hw⟩)
