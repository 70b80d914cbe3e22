theorem s_isFilled {kn : Nat → Int32} {x : Int32} {K : Int32 → Prop} (hm : ∀ k, k < 4 → ∃ m : Nat, m ≤ 8 ∧ kn k = nI m) (h1 : ∀ k m, k < 4 → x = nI k → kn k = nI m → 1 ≤ m → m ≤ 8 → K 1) (h0 : (∀ k m, k < 4 → x = nI k → kn k = nI m → 1 ≤ m → m ≤ 8 → False) → K 0) : pX10_isFilled kn x K := by
  refine s_isKeep (fun a1 => y1 ?_) (fun a1 => y0 (z0 (h0 (fun k m hk e _ _ _ => a1 ⟨k, hk, e⟩))))
  obtain ⟨k, hk, rfl⟩ := a1
  obtain ⟨m, hm8, em⟩ := hm k hk
  rw [nI_clamp (by omega), em]
  refine ⟨vp_in_nI hk (by decide), pk_le m 0 (fun hle => z0 (h0 ?_)) (fun hlt => z1 (h1 k m hk rfl em hlt hm8))⟩
  intro k' m' hk' e e' h1' h8'
  have ek : k = k' := nI_inj (by omega) (by omega) e
  subst ek
  have : m = m' := nI_inj (by omega) (by omega) (em.symm.trans e')
  omega
theorem s_isKept {kn : Nat → Int32} {x : Int32} {K : Int32 → Prop} (hm : ∀ k, k < 4 → ∃ m : Nat, m ≤ 8 ∧ kn k = nI m) (h1 : ∀ k m, k < 4 → x = nI k → kn k = nI m → 1 ≤ m → m ≤ 8 → K 1) (h0 : (∀ k m, k < 4 → x = nI k → kn k = nI m → 1 ≤ m → m ≤ 8 → False) → K 0) : pX11_isKept kn x K := by
  refine s_in4 (fun a1 => y1 ?_) (fun a1 => y0 (z0 (h0 (fun k m hk e _ _ _ => a1 ⟨k, hk, e⟩))))
  obtain ⟨k, hk, rfl⟩ := a1
  obtain ⟨m, hm8, em⟩ := hm k hk
  rw [nI_clamp (by omega), em]
  refine ⟨vp_in_nI hk (by decide), pk_le m 0 (fun hle => z0 (h0 ?_)) (fun hlt => z1 (h1 k m hk rfl em hlt hm8))⟩
  intro k' m' hk' e e' h1' h8'
  have ek : k = k' := nI_inj (by omega) (by omega) e
  subst ek
  have : m = m' := nI_inj (by omega) (by omega) (em.symm.trans e')
  omega
theorem relK_x {kn : Nat → Int32} {kc : Nat → Nat → Int32} {mm mk : Nat → Int32} (h : RelK kn kc mm mk) : ∀ k, k < 4 → ∃ m : Nat, m ≤ 8 ∧ kn k = nI m := fun k hk => by
  obtain ⟨m, T, m8, e1, -⟩ := h k hk
  exact ⟨m, m8, e1⟩
theorem relK_m {kn : Nat → Int32} {kc : Nat → Nat → Int32} {mm mk : Nat → Int32} (h : RelK kn kc mm mk) : ∀ k, k < 4 → ∃ m : Nat, m ≤ 8 ∧ mm k = nI m := fun k hk => by
  obtain ⟨m, T, m8, -, e2, -⟩ := h k hk
  exact ⟨m, m8, e2⟩
/-- the same keep is filled on both sides -/
theorem relK_no {kn : Nat → Int32} {kc : Nat → Nat → Int32} {mm mk : Nat → Int32} {x : Int32} (h : RelK kn kc mm mk) (hn : ∀ k m, k < 4 → x = nI k → kn k = nI m → 1 ≤ m → m ≤ 8 → False) : ∀ k m, k < 4 → x = nI k → mm k = nI m → 1 ≤ m → m ≤ 8 → False := by
  intro k m hk e em h1 h8
  obtain ⟨m', T, m8, e1, e2, -⟩ := h k hk
  have : m = m' := nI_inj (by omega) (by omega) (em.symm.trans e2)
  subst this
  exact hn k m hk e e1 h1 h8
theorem op_fetch {cn : Int32} {cc : Nat → Int32} {dn : Int32} {dc : Nat → Int32} {kn : Nat → Int32} {kc : Nat → Nat → Int32} {wm : Int32} {wv : Nat → Int32} {thr mn : Int32} {mk mm mt : Nat → Int32} {wm' : Int32} {mv : Nat → Int32} {x1 : Int32} (h : RelT cn cc mn mt) (hk : RelK kn kc mm mk) (hw : RelW wm wv wm' mv) :
    pX10_fetch cn cc dn dc kn kc wv x1 (fun r cn' cc' _ _ wv' => pX11_fetch thr mn mk mm mt mv x1 (fun r' _ mn' mt' mv' => r = r' ∧ RelT cn' cc' mn' mt' ∧ RelW wm wv' wm' mv')) := by
  refine s_isFilled (relK_x hk) (fun k m hk4 ex em h1 h8 => y1' ?_) (fun hn => y0' ?_)
  · subst ex
    obtain ⟨m', T, m8, e1, e2, t1, t2⟩ := hk k hk4
    have : m = m' := nI_inj (by omega) (by omega) (em.symm.trans e1)
    subst this
    refine ⟨vp_in_nI hk4 (by decide), s_copy (s_adopt ?_)⟩
    refine s_isKept (relK_m hk) (fun k' m' _ e _ _ _ => y1' ?_) (fun hn => absurd (hn k m hk4 rfl e2 h1 h8) id)
    rw [nI_clamp (by omega), e1, e2]
    refine ⟨vp_in_nI hk4 (by decide), s_straight ?_⟩
    refine lpW2_for 64 (fun i a f => a = nI i ∧ f = fa_fill (fun j => mk (64 * k + j)) mt i) 0 (Nat.zero_le _) ⟨nI_0.symm, (fa_fill_0 _ _).symm⟩ ?_
    rintro i hi a f ⟨rfl, rfl⟩ R hR
    refine pk_le 64 i (fun hle => ?_) (fun hlt => ?_)
    · have e : i = 64 := by omega
      subst e
      refine ⟨rfl, ⟨m, T, h1, h8, rfl, rfl, tab_cpy (tab_cpy t1 h8) h8, ?_⟩, relW_flat' hw⟩
      intro a b ha hb
      rw [fa_fill_in (by omega)]
      exact t2 a b ha hb
    · rw [show (64 : Int32) = nI 64 from rfl, pk_mul, nI_add]
      refine ⟨vp_in_nI (by omega) (by decide), vp_in_nI hlt (by decide), hR hlt _ _ ⟨nI_1 i, ?_⟩⟩
      rw [nI_clamp (by omega), nI_clamp (by omega)]
      exact fa_fill_succ (fun j => mk (64 * k + j)) mt i
  · exact s_isKept (relK_m hk) (fun k m hk4 ex em h1 h8 => absurd (relK_no hk hn k m hk4 ex em h1 h8) id) (fun _ => y0' ⟨rfl, h, hw⟩)
theorem op_count {tc bw bl cn wm : Int32} {thr mn mm mr ms ml x1 : Int32} (e1 : cn = mn) (e2 : wm = mm) (e3 : bw = ms) (e4 : bl = ml) (e5 : tc = mr) : pX10_count tc bw bl cn wm x1 (fun r => pX11_count thr mn mm mr ms ml x1 (fun r' _ => r = r')) := by
  subst e1 e2 e3 e4 e5
  refine ⟨fun c => ?_, fun c => ?_, fun c => ?_, fun c => ?_, fun c => ?_, fun c0 c1 c2 c3 c4 => ?_⟩
  · exact ⟨fun _ => rfl, fun q => absurd (c.symm.trans q) (by decide), fun q => absurd (c.symm.trans q) (by decide), fun q => absurd (c.symm.trans q) (by decide), fun q => absurd (c.symm.trans q) (by decide), fun q => absurd c q⟩
  · exact ⟨fun q => absurd (c.symm.trans q) (by decide), fun _ => rfl, fun q => absurd (c.symm.trans q) (by decide), fun q => absurd (c.symm.trans q) (by decide), fun q => absurd (c.symm.trans q) (by decide), fun _ q => absurd c q⟩
  · exact ⟨fun q => absurd (c.symm.trans q) (by decide), fun q => absurd (c.symm.trans q) (by decide), fun _ => rfl, fun q => absurd (c.symm.trans q) (by decide), fun q => absurd (c.symm.trans q) (by decide), fun _ _ q => absurd c q⟩
  · exact ⟨fun q => absurd (c.symm.trans q) (by decide), fun q => absurd (c.symm.trans q) (by decide), fun q => absurd (c.symm.trans q) (by decide), fun _ => rfl, fun q => absurd (c.symm.trans q) (by decide), fun _ _ _ q => absurd c q⟩
  · exact ⟨fun q => absurd (c.symm.trans q) (by decide), fun q => absurd (c.symm.trans q) (by decide), fun q => absurd (c.symm.trans q) (by decide), fun q => absurd (c.symm.trans q) (by decide), fun _ => rfl, fun _ _ _ _ q => absurd c q⟩
  · exact ⟨fun q => absurd q c0, fun q => absurd q c1, fun q => absurd q c2, fun q => absurd q c3, fun q => absurd q c4, fun _ _ _ _ _ => rfl⟩
theorem i_lt (x y : Int32) : x < y ↔ x.toInt < y.toInt := Int32.lt_iff_toInt_lt
theorem i_le (x y : Int32) : x ≤ y ↔ x.toInt ≤ y.toInt := Int32.le_iff_toInt_le
theorem op_modulus {wm : Int32} {wv : Nat → Int32} {thr wm' : Int32} {mv : Nat → Int32} {x1 : Int32} (hw : RelW wm wv wm' mv) : pX10_modulus wm wv x1 (fun r a b => pX11_modulus thr wm' mv x1 (fun r' _ a' b' => r = r' ∧ RelW a b a' b')) := by
  have no : ¬ rg 2 7 x1 → pX11_modulus thr wm' mv x1 (fun r' _ a' b' => 0 = r' ∧ RelW wm wv a' b') := fun hn => s_inR 2 7 (by decide) (by decide) rfl rfl (fun q => absurd q hn) (fun _ => y0' (z0 ⟨rfl, hw⟩))
  refine ⟨fun c => z0 (no ?_), fun c => ⟨fun c2 => s_flatten (z1 ?_), fun c2 => z0 (no ?_)⟩⟩
  · rw [i_lt, show (2 : Int32).toInt = 2 from rfl] at c
    rw [rg_iff (by decide)]
    omega
  · have hr : rg 2 7 x1 := by
      rw [i_lt, show (2 : Int32).toInt = 2 from rfl] at c
      rw [i_le, show (7 : Int32).toInt = 7 from rfl] at c2
      rw [rg_iff (by decide)]
      omega
    refine s_inR 2 7 (by decide) (by decide) rfl rfl (fun q => y1' ?_) (fun q => absurd hr q)
    obtain ⟨k, h2, h7, rfl⟩ := hr
    exact s_straight (z1 ⟨rfl, relW_flat k h2 h7 rfl rfl⟩)
  · rw [i_le, show (7 : Int32).toInt = 7 from rfl] at c2
    rw [rg_iff (by decide)]
    omega
theorem op_twist {cn : Int32} {cc : Nat → Int32} {wm : Int32} {wv : Nat → Int32} {thr mn wm' : Int32} {mt mv : Nat → Int32} {x1 x2 x3 : Int32} (h : RelT cn cc mn mt) (hw : RelW wm wv wm' mv) : pX10_twist cn wm wv x1 x2 x3 (fun r b => pX11_twist thr mn wm' mv x1 x2 x3 (fun r' _ b' => r = r' ∧ RelW wm b wm' b')) := by
  obtain ⟨N, T, h1, h8, rfl, rfl, hx, hm⟩ := h
  have hN : N < 2 ^ 31 := by omega
  obtain ⟨k, k2, k7, rfl, rfl, hv⟩ := id hw
  refine s_has hN (fun a1 => y1 ?_) (fun a1 => y0 (z0 ?_))
  · refine s_has hN (fun a2 => y1 ?_) (fun a2 => y0 (z0 ?_))
    · have no : ¬ th k x3 → pX11_twist thr (nI N) (nI k) mv x1 x2 x3 (fun r' _ b' => 0 = r' ∧ RelW (nI k) wv (nI k) b') := fun hn => by
        refine s_isThing h1 hN (fun _ => y1 ?_) (fun q => absurd a1 q)
        refine s_isThing h1 hN (fun _ => y1 ?_) (fun q => absurd a2 q)
        rw [show nI k - 1 = nI (k - 1) from pk_sub (a := k) (b := 1) (by omega)]
        refine s_inR 0 (k - 1) (by omega) (by decide) rfl rfl (fun q => absurd ?_ hn) (fun _ => y0' (z0 ⟨rfl, hw⟩))
        obtain ⟨j, _, hj, e⟩ := q
        exact ⟨j, by omega, e⟩
      refine ⟨fun c => z0 (no ?_), fun c => ⟨fun c2 => ?_, fun c2 => z0 (no ?_)⟩⟩
      · rintro ⟨j, hj, rfl⟩
        exact nI_pos (by omega) c
      · have a3 : th k x3 := by
          rw [th_iff (by omega)]
          rw [i_lt, Int32.toInt_zero] at c
          rw [i_lt, nI_toInt (by omega)] at c2
          omega
        obtain ⟨a, ha, rfl⟩ := id a1
        obtain ⟨b, hb, rfl⟩ := id a2
        obtain ⟨v, hv3, rfl⟩ := id a3
        unfold pX9_put
        rw [ix8]
        refine ⟨vp_in_nI (by omega) (by decide), z1 ?_⟩
        refine s_isThing h1 hN (fun _ => y1 ?_) (fun q => absurd a1 q)
        refine s_isThing h1 hN (fun _ => y1 ?_) (fun q => absurd a2 q)
        rw [show nI k - 1 = nI (k - 1) from pk_sub (a := k) (b := 1) (by omega)]
        refine s_inR 0 (k - 1) (by omega) (by decide) rfl rfl (fun _ => y1' ?_) (fun q => absurd ⟨v, by omega, by omega, rfl⟩ q)
        rw [ix8']
        refine ⟨vp_in_nI (by omega) (by decide), z1 ⟨rfl, k, k2, k7, rfl, rfl, ?_⟩⟩
        rw [nI_clamp (by omega)]
        intro j hj
        unfold upd
        split
        · exact ⟨rfl, v, hv3, rfl⟩
        · exact hv j hj
      · rintro ⟨j, hj, rfl⟩
        exact c2 (nI_lt hj (by omega))
    · refine s_isThing h1 hN (fun _ => y1 ?_) (fun q => absurd a1 q)
      exact s_isThing h1 hN (fun q => absurd q a2) (fun _ => y0 (z0 ⟨rfl, hw⟩))
  · exact s_isThing h1 hN (fun q => absurd q a1) (fun _ => y0 (z0 ⟨rfl, hw⟩))
theorem op_twisted {cn : Int32} {cc : Nat → Int32} {wm : Int32} {wv : Nat → Int32} {thr mn wm' : Int32} {mt mv : Nat → Int32} {x1 x2 : Int32} (h : RelT cn cc mn mt) (hw : RelW wm wv wm' mv) : pX10_twisted cn wv x1 x2 (fun r => pX11_twisted thr mn mv x1 x2 (fun r' _ => r = r')) := by
  obtain ⟨N, T, h1, h8, rfl, rfl, hx, hm⟩ := h
  have hN : N < 2 ^ 31 := by omega
  obtain ⟨k, k2, k7, rfl, rfl, hv⟩ := id hw
  refine s_has hN (fun a1 => y1 ?_) (fun a1 => y0 ?_)
  · refine s_has hN (fun a2 => y1 ?_) (fun a2 => y0 ?_)
    · obtain ⟨a, ha, rfl⟩ := id a1
      obtain ⟨b, hb, rfl⟩ := id a2
      refine e_value (by omega) (by omega) ?_
      refine s_isThing h1 hN (fun _ => y1 ?_) (fun q => absurd a1 q)
      refine s_isThing h1 hN (fun _ => y1 ?_) (fun q => absurd a2 q)
      unfold pX11_twistOf
      rw [ix8', nI_clamp (by omega)]
      exact ⟨vp_in_nI (by omega) (by decide), (hv _ (by omega)).1⟩
    · refine s_isThing h1 hN (fun _ => y1 ?_) (fun q => absurd a1 q)
      exact s_isThing h1 hN (fun q => absurd q a2) (fun _ => y0 rfl)
  · exact s_isThing h1 hN (fun q => absurd q a1) (fun _ => y0 rfl)
theorem op_strands {bw bl : Int32} {bd : Nat → Int32} {thr ms ml : Int32} {md : Nat → Int32} {x1 : Int32} (hb : RelB bw bl bd ms ml md) : pX10_strands bw bl x1 (fun r a b => pX11_strands thr ms ml x1 (fun r' _ a' b' => r = r' ∧ RelB a b bd a' b' md)) := by
  have no : ¬ rg 2 4 x1 → pX11_strands thr ms ml x1 (fun r' _ a' b' => 0 = r' ∧ RelB bw bl bd a' b' md) := fun hn => s_inR 2 4 (by decide) (by decide) rfl rfl (fun q => absurd q hn) (fun _ => y0' (z0 ⟨rfl, hb⟩))
  refine ⟨fun c => z0 (no ?_), fun c => ⟨fun c2 => z1 ?_, fun c2 => z0 (no ?_)⟩⟩
  · rw [i_lt, show (2 : Int32).toInt = 2 from rfl] at c
    rw [rg_iff (by decide)]
    omega
  · have hr : rg 2 4 x1 := by
      rw [i_lt, show (2 : Int32).toInt = 2 from rfl] at c
      rw [i_le, show (4 : Int32).toInt = 4 from rfl] at c2
      rw [rg_iff (by decide)]
      omega
    refine s_inR 2 4 (by decide) (by decide) rfl rfl (fun q => y1' (z1 ?_)) (fun q => absurd hr q)
    obtain ⟨k, h2, h4, rfl⟩ := hr
    exact ⟨rfl, k, 0, h2, h4, by omega, rfl, rfl, rfl, rfl, fun i hi => absurd hi (Nat.not_lt_zero _)⟩
  · rw [i_le, show (4 : Int32).toInt = 4 from rfl] at c2
    rw [rg_iff (by decide)]
    omega
