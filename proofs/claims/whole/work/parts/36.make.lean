/-! Tables made: turn, table, line, dual, times, cover. -/
theorem s_putRow {N a p : Nat} {c : Nat → Int32} {K : (Nat → Int32) → Prop} (hN : N ≤ 8) (ha : a < 8) (hp : p < 2 ^ 31) (h : K (fb_put c (fun j => nI (p / 8 ^ j % 8)) (8 * a) N)) : pX7_putRow (nI N) c (nI a) (nI p) K := by
  refine lpW2_for N (fun j x f => x = nI j ∧ f = fb_put c (fun j => nI (p / 8 ^ j % 8)) (8 * a) j) 0 (Nat.zero_le _) ⟨nI_0.symm, (fb_put_0 _ _ _).symm⟩ ?_
  rintro j hj x f ⟨rfl, rfl⟩ R hR
  refine pk_le N j (fun hle => ?_) (fun hlt => ?_)
  · have e : j = N := by omega
    subst e
    exact h
  · refine s_image hp (by omega) (e_put ha (by omega) (hR hlt _ _ ⟨nI_1 j, ?_⟩))
    exact fb_put_succ c (fun j => nI (p / 8 ^ j % 8)) (8 * a) j
theorem rg_sub {lo hi lo' hi' : Nat} {x : Int32} (h : rg lo hi x) (h1 : lo' ≤ lo) (h2 : hi ≤ hi') : rg lo' hi' x := by
  obtain ⟨j, a, b, e⟩ := h
  exact ⟨j, by omega, by omega, e⟩
theorem pdg_lt {m num i : Nat} (hm : m ≤ 8) (hn : num < fac m) (hi : i < m) : pdg m num i < m := (pst_ok hm hn m (Nat.le_refl _)).2.1 i hi
theorem pck_lt31 {f : Nat → Nat} {n : Nat} (hn : n ≤ 8) (h : ∀ i, i < n → f i < 8) : pck f n < 2 ^ 31 := by
  have h1 := pck_lt h
  have h2 : 8 ^ n ≤ 8 ^ 8 := Nat.pow_le_pow_right (by decide) hn
  have h3 : (8 : Nat) ^ 8 = 16777216 := by decide
  omega
theorem op_turn {cn : Int32} {cc : Nat → Int32} {dn : Int32} {dc : Nat → Int32} {wm : Int32} {wv : Nat → Int32} {thr mn : Int32} {mf mt : Nat → Int32} {wm' : Int32} {mv : Nat → Int32} {x1 x2 : Int32} (h : RelT cn cc mn mt) (hw : RelW wm wv wm' mv) :
    pX10_turn cn cc dn dc wv x1 x2 (fun r cn' cc' _ _ wv' => pX11_turn thr mn mf mt mv x1 x2 (fun r' _ mn' _ mt' mv' => r = r' ∧ RelT cn' cc' mn' mt' ∧ RelW wm wv' wm' mv')) := by
  have no : (¬ rg 1 8 x1 ∨ ∃ N, 1 ≤ N ∧ N ≤ 8 ∧ x1 = nI N ∧ ¬ rg 0 (fac N - 1) x2) → pX11_turn thr mn mf mt mv x1 x2 (fun r' _ mn' _ mt' mv' => 0 = r' ∧ RelT cn cc mn' mt' ∧ RelW wm wv wm' mv') := by
    intro hn
    refine s_inR 1 8 (by decide) (by decide) rfl rfl (fun q => y1 ?_) (fun q => y0 (z0 ⟨rfl, h, hw⟩))
    rcases hn with hn | ⟨N, h1, h8, rfl, hn⟩
    · exact absurd q hn
    · have hf := fac_le N h8
      have hp := fac_pos N
      refine s_factorial h8 ?_ 10 (by omega)
      rw [show nI (fac N) - 1 = nI (fac N - 1) from pk_sub (a := fac N) (b := 1) hp]
      exact s_inR 0 (fac N - 1) (by omega) (by decide) rfl rfl (fun q => absurd q hn) (fun _ => y0' (z0 ⟨rfl, h, hw⟩))
  refine s_isSize (fun a1 => y1 ?_) (fun a1 => y0 (z0 (no (Or.inl a1))))
  obtain ⟨N, h1, h8, rfl⟩ := id a1
  have hf := fac_le N h8
  have hfp := fac_pos N
  refine ⟨fun c => z0 (no (Or.inr ⟨N, h1, h8, rfl, ?_⟩)), fun c => ⟨vp_in_nI (by omega) (by decide), ?_⟩⟩
  · rintro ⟨j, _, _, rfl⟩
    exact nI_pos (by omega) c
  · rw [nI_clamp (by omega), fct_fac N h8]
    obtain ⟨p, hp31, rfl⟩ := nI_of c
    refine pk_lt p (fac N) (fun hlt => ?_) (fun hge => z0 (no (Or.inr ⟨N, h1, h8, rfl, ?_⟩)))
    · refine s_numbered h1 h8 hlt ?_
      have hd : ∀ i, i < N → pdg N p i < 8 := fun i hi => Nat.lt_of_lt_of_le (pdg_lt h8 hlt hi) h8
      have hpk := pck_lt31 h8 hd
      refine lpW2_for N (fun a x f => x = nI a ∧ ∀ a', a' < a → ∀ j, j < N → f (8 * a' + j) = nI (pdg N p j)) 0 (Nat.zero_le _) ⟨nI_0.symm, fun a' ha' => absurd ha' (Nat.not_lt_zero _)⟩ ?_
      rintro a ha x f ⟨rfl, hI⟩ R hR
      refine pk_le N a (fun hle => ?_) (fun hlt2 => ?_)
      · have e : a = N := by omega
        subst e
        refine s_adopt (z1 ?_)
        refine s_inR 1 8 (by decide) (by decide) rfl rfl (fun q => y1 ?_) (fun q => absurd a1 q)
        refine s_factorial h8 ?_ 10 (by omega)
        rw [show nI (fac a) - 1 = nI (fac a - 1) from pk_sub (a := fac a) (b := 1) hfp]
        refine s_inR 0 (fac a - 1) (by omega) (by decide) rfl rfl (fun q => y1' ?_) (fun q => absurd ⟨p, by omega, by omega, rfl⟩ q)
        refine s_straight ?_
        refine s_permutation (by omega) (by decide) h1 h8 hlt ?_
        refine lpW2_for a (fun b x g => x = nI b ∧ ∀ a', a' < b → ∀ j, j < a → g (8 * a' + j) = nI (pdg a p j)) 0 (Nat.zero_le _) ⟨nI_0.symm, fun a' ha' => absurd ha' (Nat.not_lt_zero _)⟩ ?_
        rintro b hb x g ⟨rfl, hJ⟩ R2 hR2
        refine pk_le a b (fun hle => ?_) (fun hlt3 => ?_)
        · have e : b = a := by omega
          subst e
          refine z1 ⟨rfl, ⟨b, fun _ j => pdg b p j, h1, h8, rfl, rfl, tab_cpy (fun i j hi hj => ⟨hI i hi j hj, pdg_lt h8 hlt hj⟩) h8, fun i j hi hj => ⟨hJ i hi j hj, pdg_lt h8 hlt hj⟩⟩, relW_flat' hw⟩
        · refine lpW2_for a (fun j x g' => x = nI j ∧ g' = fb_put g (fun j => nI (pdg a p j)) (8 * b) j) 0 (Nat.zero_le _) ⟨nI_0.symm, (fb_put_0 _ _ _).symm⟩ ?_
          rintro j hj x g' ⟨rfl, rfl⟩ R3 hR3
          refine pk_le a j (fun hle => ?_) (fun hlt4 => ?_)
          · have e : j = a := by omega
            subst e
            refine hR2 hlt3 _ _ ⟨nI_1 b, fun a' ha' i hi => ?_⟩
            rcases Nat.lt_or_ge a' b with q | q
            · rw [fb_put_out (by omega)]
              exact hJ a' q i hi
            · rw [show a' = b by omega, fb_put_in (by omega) (by omega), show 8 * b + i - 8 * b = i by omega]
          · rw [ix8', nI_clamp (by omega), nI_clamp (by omega)]
            refine ⟨vp_in_nI (by omega) (by decide), vp_in_nI (by omega) (by decide), hR3 hlt4 _ _ ⟨nI_1 j, ?_⟩⟩
            rw [fa_fill_in hlt4]
            exact fb_put_succ g (fun j => nI (pdg a p j)) (8 * b) j
      · refine s_putRow h8 (by omega) hpk (hR hlt2 _ _ ⟨nI_1 a, fun a' ha' j hj => ?_⟩)
        rcases Nat.lt_or_ge a' a with q | q
        · rw [fb_put_out (by omega)]
          exact hI a' q j hj
        · rw [show a' = a by omega, fb_put_in (by omega) (by omega), show 8 * a + j - 8 * a = j by omega]
          rw [pck_at hd hj]
    · rintro ⟨j, _, hj, e⟩
      have := nI_inj (by omega) (by omega) e
      omega
theorem pdg_0 : ∀ m, m ≤ 8 → ∀ k, k < m → pdg m 0 k = k := by decide +kernel
theorem s_turn0 {cn : Int32} {cc : Nat → Int32} {dn : Int32} {dc wv : Nat → Int32} {N : Nat} {K : Int32 → Int32 → (Nat → Int32) → Int32 → (Nat → Int32) → (Nat → Int32) → Prop} (h1 : 1 ≤ N) (h8 : N ≤ 8) (h : ∀ dc', (∀ a, a < N → ∀ j, j < N → dc' (8 * a + j) = nI j) → K 1 (nI N) (va_cpy dc' cc 0 0 64) (nI N) dc' (fa_fill (fun _ => 0) wv 64)) : pX10_turn cn cc dn dc wv (nI N) 0 K := by
  have hf := fac_le N h8
  have hfp := fac_pos N
  refine s_isSize (fun a1 => y1 ?_) (fun a1 => absurd ⟨N, h1, h8, rfl⟩ a1)
  refine ⟨fun c => absurd c (by decide), fun c => ⟨vp_in_nI (by omega) (by decide), ?_⟩⟩
  rw [nI_clamp (by omega), fct_fac N h8]
  refine pk_lt 0 (fac N) (fun hlt => ?_) (fun hge => absurd hge (by omega))
  refine s_numbered (num := 0) h1 h8 hlt ?_
  have hd : ∀ i, i < N → pdg N 0 i < 8 := fun i hi => Nat.lt_of_lt_of_le (pdg_lt h8 hlt hi) h8
  have hpk := pck_lt31 h8 hd
  refine lpW2_for N (fun a x f => x = nI a ∧ ∀ a', a' < a → ∀ j, j < N → f (8 * a' + j) = nI j) 0 (Nat.zero_le _) ⟨nI_0.symm, fun a' ha' => absurd ha' (Nat.not_lt_zero _)⟩ ?_
  rintro a ha x f ⟨rfl, hI⟩ R hR
  refine pk_le N a (fun hle => ?_) (fun hlt2 => ?_)
  · have e : a = N := by omega
    subst e
    exact s_adopt (z1 (h f hI))
  · refine s_putRow h8 (by omega) hpk (hR hlt2 _ _ ⟨nI_1 a, fun a' ha' j hj => ?_⟩)
    rcases Nat.lt_or_ge a' a with q | q
    · rw [fb_put_out (by omega)]
      exact hI a' q j hj
    · rw [show a' = a by omega, fb_put_in (by omega) (by omega), show 8 * a + j - 8 * a = j by omega]
      rw [pck_at hd hj, pdg_0 N h8 j hj]
theorem op_table {cn : Int32} {cc : Nat → Int32} {dn : Int32} {dc : Nat → Int32} {wm : Int32} {wv : Nat → Int32} {thr mn : Int32} {mt : Nat → Int32} {wm' : Int32} {mv : Nat → Int32} {x1 : Int32} (h : RelT cn cc mn mt) (hw : RelW wm wv wm' mv) :
    pX10_table cn cc dn dc wv x1 (fun r cn' cc' _ _ wv' => pX11_table thr mn mt mv x1 (fun r' _ mn' mt' mv' => r = r' ∧ RelT cn' cc' mn' mt' ∧ RelW wm wv' wm' mv')) := by
  by_cases a1 : rg 1 8 x1
  · obtain ⟨N, h1, h8, rfl⟩ := id a1
    refine s_turn0 h1 h8 (fun dc' hdc => z1 ?_)
    refine s_inR 1 8 (by decide) (by decide) rfl rfl (fun q => y1' ?_) (fun q => absurd a1 q)
    refine s_straight ?_
    refine lpW2_for N (fun b x g => x = nI b ∧ ∀ a', a' < b → ∀ j, j < N → g (8 * a' + j) = nI j) 0 (Nat.zero_le _) ⟨nI_0.symm, fun a' ha' => absurd ha' (Nat.not_lt_zero _)⟩ ?_
    rintro b hb x g ⟨rfl, hJ⟩ R2 hR2
    refine pk_le N b (fun hle => ?_) (fun hlt3 => ?_)
    · have e : b = N := by omega
      subst e
      exact z1 ⟨rfl, ⟨b, fun _ j => j, h1, h8, rfl, rfl, tab_cpy (fun i j hi hj => ⟨hdc i hi j hj, hj⟩) h8, fun i j hi hj => ⟨hJ i hi j hj, hj⟩⟩, relW_flat' hw⟩
    · refine lpW2_for N (fun j x g' => x = nI j ∧ g' = fb_put g (fun j => nI j) (8 * b) j) 0 (Nat.zero_le _) ⟨nI_0.symm, (fb_put_0 _ _ _).symm⟩ ?_
      rintro j hj x g' ⟨rfl, rfl⟩ R3 hR3
      refine pk_le N j (fun hle => ?_) (fun hlt4 => ?_)
      · have e : j = N := by omega
        subst e
        refine hR2 hlt3 _ _ ⟨nI_1 b, fun a' ha' i hi => ?_⟩
        rcases Nat.lt_or_ge a' b with q | q
        · rw [fb_put_out (by omega)]
          exact hJ a' q i hi
        · rw [show a' = b by omega, fb_put_in (by omega) (by omega), show 8 * b + i - 8 * b = i by omega]
      · rw [ix8', nI_clamp (by omega)]
        exact ⟨vp_in_nI (by omega) (by decide), hR3 hlt4 _ _ ⟨nI_1 j, fb_put_succ g (fun j => nI j) (8 * b) j⟩⟩
  · refine s_isSize (fun q => absurd q a1) (fun _ => y0 (z0 (z0 ?_)))
    exact s_inR 1 8 (by decide) (by decide) rfl rfl (fun q => absurd q a1) (fun _ => y0' (z0 ⟨rfl, h, hw⟩))
