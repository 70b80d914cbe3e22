/-! How the two sides hang together, part by part; the calls that only set and read. -/
def RelT (xn : Int32) (xc : Nat → Int32) (mn : Int32) (mt : Nat → Int32) : Prop := ∃ (N : Nat) (T : Nat → Nat → Nat), 1 ≤ N ∧ N ≤ 8 ∧ xn = nI N ∧ mn = nI N ∧ tab xc N T ∧ tab mt N T
def RelW (xm : Int32) (xv : Nat → Int32) (mm : Int32) (mv : Nat → Int32) : Prop := ∃ k : Nat, 2 ≤ k ∧ k ≤ 7 ∧ xm = nI k ∧ mm = nI k ∧ ∀ j, j < 64 → xv j = mv j ∧ ∃ v, v < k ∧ xv j = nI v
def RelK (xn : Nat → Int32) (xc : Nat → Nat → Int32) (mn : Nat → Int32) (mk : Nat → Int32) : Prop := ∀ k, k < 4 → ∃ (m : Nat) (T : Nat → Nat → Nat), m ≤ 8 ∧ xn k = nI m ∧ mn k = nI m ∧ tab (xc k) m T ∧ tab (fun j => mk (64 * k + j)) m T
def RelB (xw xl : Int32) (xd : Nat → Int32) (mw ml : Int32) (md : Nat → Int32) : Prop := ∃ w len : Nat, 2 ≤ w ∧ w ≤ 4 ∧ len ≤ 24 ∧ xw = nI w ∧ mw = nI w ∧ xl = nI len ∧ ml = nI len ∧ ∀ i, i < len → xd i = md i ∧ ∃ j : Nat, 1 ≤ j ∧ j < w ∧ (xd i = nI j ∨ xd i = -nI j)
def RelR (xc : Int32) (xt : Nat → Int32) (mc : Int32) (mt : Nat → Int32) : Prop := ∃ n : Nat, n ≤ 8 ∧ xc = nI n ∧ mc = nI n ∧ ∀ i, i < n → xt i = mt i
theorem y1 {A B : Prop} (b : B) : ((1 : Int32) = 0 → A) ∧ (¬ (1 : Int32) = 0 → B) := ⟨fun q => absurd q (by decide), fun _ => b⟩
theorem y0 {A B : Prop} (a : A) : ((0 : Int32) = 0 → A) ∧ (¬ (0 : Int32) = 0 → B) := ⟨fun _ => a, fun q => absurd rfl q⟩
theorem y1' {A B : Prop} (a : A) : (¬ (1 : Int32) = 0 → A) ∧ ((1 : Int32) = 0 → B) := ⟨fun _ => a, fun q => absurd q (by decide)⟩
theorem y0' {A B : Prop} (b : B) : (¬ (0 : Int32) = 0 → A) ∧ ((0 : Int32) = 0 → B) := ⟨fun q => absurd rfl q, fun _ => b⟩
theorem z0 {A : Prop} (a : A) : zb 0 ∧ A := ⟨Or.inl rfl, a⟩
theorem z1 {A : Prop} (a : A) : zb 1 ∧ A := ⟨Or.inr rfl, a⟩
theorem ix_inj {a b i j : Nat} (hb : b < 8) (hj : j < 8) : 8 * i + j = 8 * a + b ↔ i = a ∧ j = b := by omega
theorem tab_upd {c : Nat → Int32} {N : Nat} {T : Nat → Nat → Nat} {a b v : Nat} (ht : tab c N T) (hN : N ≤ 8) (hb : b < N) (hv : v < N) : tab (upd c (8 * a + b) (nI v)) N (fun i j => if i = a ∧ j = b then v else T i j) := by
  intro i j hi hj
  show (if 8 * i + j = 8 * a + b then nI v else c (8 * i + j)) = nI (if i = a ∧ j = b then v else T i j) ∧ (if i = a ∧ j = b then v else T i j) < N
  by_cases e : i = a ∧ j = b
  · rw [if_pos ((ix_inj (by omega) (by omega)).mpr e), if_pos e]
    exact ⟨rfl, hv⟩
  · rw [if_neg (fun q => e ((ix_inj (by omega) (by omega)).mp q)), if_neg e]
    exact ht i j hi hj
theorem op_set {cn : Int32} {cc : Nat → Int32} {thr mn : Int32} {mt : Nat → Int32} {x1 x2 x3 : Int32} (h : RelT cn cc mn mt) : pX10_set cn cc x1 x2 x3 (fun r cc' => pX11_set thr mn mt x1 x2 x3 (fun r' _ mt' => r = r' ∧ RelT cn cc' mn mt')) := by
  obtain ⟨N, T, h1, h8, rfl, rfl, hx, hm⟩ := h
  have hN : N < 2 ^ 31 := by omega
  have hR : RelT (nI N) cc (nI N) mt := ⟨N, T, h1, h8, rfl, rfl, hx, hm⟩
  refine s_has hN (fun a1 => y1 ?_) (fun a1 => y0 (z0 ?_))
  · refine s_has hN (fun a2 => y1 ?_) (fun a2 => y0 (z0 ?_))
    · refine s_has hN (fun a3 => y1' ?_) (fun a3 => y0' (z0 ?_))
      · obtain ⟨a, ha, rfl⟩ := id a1
        obtain ⟨b, hb, rfl⟩ := id a2
        obtain ⟨v, hv, rfl⟩ := id a3
        refine e_put (by omega) (by omega) (z1 ?_)
        refine s_isThing h1 hN (fun _ => y1 ?_) (fun q => absurd a1 q)
        refine s_isThing h1 hN (fun _ => y1 ?_) (fun q => absurd a2 q)
        refine s_isThing h1 hN (fun _ => y1' ?_) (fun q => absurd a3 q)
        rw [ix8']
        refine ⟨vp_in_nI (by omega) (by decide), z1 ⟨rfl, N, _, h1, h8, rfl, rfl, tab_upd hx h8 hb hv, ?_⟩⟩
        rw [nI_clamp (by omega)]
        exact tab_upd hm h8 hb hv
      · refine s_isThing h1 hN (fun _ => y1 ?_) (fun q => absurd a1 q)
        refine s_isThing h1 hN (fun _ => y1 ?_) (fun q => absurd a2 q)
        exact s_isThing h1 hN (fun q => absurd q a3) (fun _ => y0' (z0 ⟨rfl, hR⟩))
    · refine s_isThing h1 hN (fun _ => y1 ?_) (fun q => absurd a1 q)
      exact s_isThing h1 hN (fun q => absurd q a2) (fun _ => y0 (z0 ⟨rfl, hR⟩))
  · exact s_isThing h1 hN (fun q => absurd q a1) (fun _ => y0 (z0 ⟨rfl, hR⟩))
theorem s_fill {N : Nat} {p : Nat → Int32} {x : Int32} {K : (Nat → Int32) → Prop} (hN : N < 2 ^ 31) (h : K (fa_fill (fun _ => x) p N)) : pJ7_fill_53178 N p x K := by
  refine lpW2_for N (fun i a f => a = nI i ∧ f = fa_fill (fun _ => x) p i) 0 (Nat.zero_le _) ⟨nI_0.symm, (fa_fill_0 _ _).symm⟩ ?_
  rintro i hi a f ⟨rfl, rfl⟩ R hR
  refine pk_le N i (fun hle => ?_) (fun hlt => ?_)
  · have e : i = N := by omega
    subst e
    exact h
  · refine ⟨vp_in_nI hlt hN, hR hlt _ _ ⟨nI_1 i, ?_⟩⟩
    rw [nI_clamp (by omega)]
    exact fa_fill_succ (fun _ => x) p i
theorem s_straight {p : Nat → Int32} {K : (Nat → Int32) → Prop} (h : K (fa_fill (fun _ => 0) p 64)) : pX11_straight p K := by
  refine lpW2_for 64 (fun i a f => a = nI i ∧ f = fa_fill (fun _ => 0) p i) 0 (Nat.zero_le _) ⟨nI_0.symm, (fa_fill_0 _ _).symm⟩ ?_
  rintro i hi a f ⟨rfl, rfl⟩ R hR
  refine pk_le 64 i (fun hle => ?_) (fun hlt => ?_)
  · have e : i = 64 := by omega
    subst e
    exact h
  · refine ⟨vp_in_nI hlt (by decide), hR hlt _ _ ⟨nI_1 i, ?_⟩⟩
    rw [nI_clamp (by omega)]
    exact fa_fill_succ (fun _ => 0) p i
theorem s_flatten {p : Nat → Int32} {K : (Nat → Int32) → Prop} (h : K (fa_fill (fun _ => 0) p 64)) : pX9_flatten p K := s_fill (by decide) h
/-- both twists made flat -/
theorem relW_flat {xm mm : Int32} {xv mv : Nat → Int32} (k : Nat) (h2 : 2 ≤ k) (h7 : k ≤ 7) (ex : xm = nI k) (em : mm = nI k) : RelW xm (fa_fill (fun _ => 0) xv 64) mm (fa_fill (fun _ => 0) mv 64) :=
  ⟨k, h2, h7, ex, em, fun j hj => by rw [fa_fill_in hj, fa_fill_in hj]; exact ⟨rfl, 0, by omega, rfl⟩⟩
theorem relW_flat' {xm mm : Int32} {xv mv : Nat → Int32} (h : RelW xm xv mm mv) : RelW xm (fa_fill (fun _ => 0) xv 64) mm (fa_fill (fun _ => 0) mv 64) := by
  obtain ⟨k, h2, h7, ex, em, -⟩ := h
  exact relW_flat k h2 h7 ex em
theorem tab_cpy {c d : Nat → Int32} {N : Nat} {T : Nat → Nat → Nat} (ht : tab c N T) (hN : N ≤ 8) : tab (va_cpy c d 0 0 64) N T := by
  intro a b ha hb
  rw [pk_cpy_in (by omega) (by omega), show 0 + (8 * a + b - 0) = 8 * a + b by omega]
  exact ht a b ha hb
theorem s_copy {n : Int32} {c : Nat → Int32} {n' : Int32} {c' : Nat → Int32} {K : Int32 → (Nat → Int32) → Prop} (h : K n' (va_cpy c' c 0 0 64)) : pX7_copy n c n' c' K := h
theorem s_adopt {cn : Int32} {cc : Nat → Int32} {dn : Int32} {dc wv : Nat → Int32} {K : Int32 → Int32 → (Nat → Int32) → (Nat → Int32) → Prop} (h : K dn dn (va_cpy dc cc 0 0 64) (fa_fill (fun _ => 0) wv 64)) : pX10_adoptDraft cn cc dn dc wv K :=
  s_flatten h
theorem s_in32 {x lo hi : Int32} {L H : Int64} {K : Int32 → Prop} (hL : L = lo.toInt64) (hH : H = hi.toInt64) (h1 : lo.toInt ≤ x.toInt ∧ x.toInt ≤ hi.toInt → K 1) (h0 : ¬ (lo.toInt ≤ x.toInt ∧ x.toInt ≤ hi.toInt) → K 0) : pX11_in x.toInt64 L H K := by
  subst hL hH
  refine s_in (fun h => h1 ?_) (fun h => h0 ?_)
  · rw [w_le, w_le] at h
    exact h
  · rw [w_le, w_le] at h
    exact h
/-- a number between two -/
def rg (lo hi : Nat) (x : Int32) : Prop := ∃ j : Nat, lo ≤ j ∧ j ≤ hi ∧ x = nI j
theorem rg_iff {lo hi : Nat} (hh : hi < 2 ^ 31) (x : Int32) : rg lo hi x ↔ (lo : Int) ≤ x.toInt ∧ x.toInt ≤ hi := by
  constructor
  · rintro ⟨j, h1, h2, rfl⟩
    rw [nI_toInt (by omega)]
    omega
  · rintro ⟨h1, h2⟩
    obtain ⟨j, hj, e⟩ := nI_of (x := x) (by rw [Int32.lt_iff_toInt_lt, Int32.toInt_zero]; omega)
    subst e
    rw [nI_toInt hj] at h1 h2
    exact ⟨j, by omega, by omega, rfl⟩
theorem s_inR {x : Int32} {L H : Int64} {K : Int32 → Prop} (lo hi : Nat) (hh : hi < 2 ^ 31) (hl : lo < 2 ^ 31) (hL : L = (nI lo).toInt64) (hH : H = (nI hi).toInt64) (h1 : rg lo hi x → K 1) (h0 : ¬ rg lo hi x → K 0) : pX11_in x.toInt64 L H K := by
  refine s_in32 hL hH (fun q => h1 ?_) (fun q => h0 ?_)
  · rw [rg_iff hh]
    rw [nI_toInt hl, nI_toInt hh] at q
    exact q
  · rw [rg_iff hh]
    rw [nI_toInt hl, nI_toInt hh] at q
    exact q
theorem s_isSize {x : Int32} {K : Int32 → Prop} (h1 : rg 1 8 x → K 1) (h0 : ¬ rg 1 8 x → K 0) : pX10_isSize x K := by
  rw [rg_iff (by decide)] at h1 h0
  refine ⟨fun h => z0 (h0 ?_), fun h => ⟨fun h2 => z0 (h0 ?_), fun h2 => z1 (h1 ?_)⟩⟩
  · rw [Int32.lt_iff_toInt_lt, show (1 : Int32).toInt = 1 from rfl] at h
    omega
  · rw [Int32.lt_iff_toInt_lt, show (8 : Int32).toInt = 8 from rfl] at h2
    omega
  · rw [Int32.lt_iff_toInt_lt, show (1 : Int32).toInt = 1 from rfl] at h
    rw [Int32.lt_iff_toInt_lt, show (8 : Int32).toInt = 8 from rfl] at h2
    omega
theorem s_isKeep {x : Int32} {K : Int32 → Prop} (h1 : th 4 x → K 1) (h0 : ¬ th 4 x → K 0) : pX10_isKeep x K := by
  show pX7_has (nI 4) x K
  exact s_has (by decide) h1 h0
theorem th4_rg (x : Int32) : rg 0 3 x ↔ th 4 x := ⟨fun ⟨j, _, h2, e⟩ => ⟨j, by omega, e⟩, fun ⟨j, h, e⟩ => ⟨j, by omega, by omega, e⟩⟩
theorem s_in4 {x : Int32} {K : Int32 → Prop} (h1 : th 4 x → K 1) (h0 : ¬ th 4 x → K 0) : pX11_in x.toInt64 (0 : Int64) (3 : Int64) K :=
  s_inR 0 3 (by decide) (by decide) rfl rfl (fun h => h1 ((th4_rg x).mp h)) (fun h => h0 (fun q => h ((th4_rg x).mpr q)))
theorem op_keep {cn : Int32} {cc : Nat → Int32} {kn : Nat → Int32} {kc : Nat → Nat → Int32} {thr mn : Int32} {mk mm mt : Nat → Int32} {x1 : Int32} (h : RelT cn cc mn mt) (hk : RelK kn kc mm mk) : pX10_keep cn cc kn kc x1 (fun r kn' kc' => pX11_keep thr mn mk mm mt x1 (fun r' _ mk' mm' => r = r' ∧ RelK kn' kc' mm' mk')) := by
  obtain ⟨N, T, h1, h8, rfl, rfl, hx, hm⟩ := h
  refine s_isKeep (fun a1 => y1' ?_) (fun a1 => y0' (z0 ?_))
  · obtain ⟨k, hk4, rfl⟩ := id a1
    refine ⟨vp_in_nI hk4 (by decide), z1 ?_⟩
    refine s_in4 (fun _ => y1' ⟨vp_in_nI hk4 (by decide), ?_⟩) (fun q => absurd a1 q)
    refine lpW2_for 64 (fun i a f => a = nI i ∧ f = fb_put mk mt (64 * k) i) 0 (Nat.zero_le _) ⟨nI_0.symm, (fb_put_0 _ _ _).symm⟩ ?_
    rintro i hi a f ⟨rfl, rfl⟩ R hR
    refine pk_le 64 i (fun hle => ?_) (fun hlt => ?_)
    · have e : i = 64 := by omega
      subst e
      refine z1 ⟨rfl, ?_⟩
      rw [nI_clamp (by omega)]
      intro q hq
      by_cases e : q = k
      · subst e
        refine ⟨N, T, h8, by simp [va_up], by simp [upd], ?_, ?_⟩
        · show tab (va_up kc q _ q) N T
          rw [show va_up kc q (va_cpy cc (kc q) (Int32.toNatClampNeg 0) (Int32.toNatClampNeg 0) (Int32.toNatClampNeg 64)) q = va_cpy cc (kc q) 0 0 64 from if_pos rfl]
          exact tab_cpy hx h8
        · intro a b ha hb
          show fb_put mk mt (64 * q) 64 (64 * q + (8 * a + b)) = _ ∧ _
          rw [fb_put_in (by omega) (by omega), show 64 * q + (8 * a + b) - 64 * q = 8 * a + b by omega]
          exact hm a b ha hb
      · obtain ⟨m, T', m8, e1, e2, t1, t2⟩ := hk q hq
        refine ⟨m, T', m8, by simp [va_up, e, e1], by simp [upd, e, e2], ?_, ?_⟩
        · show tab (va_up kc k _ q) m T'
          rw [show va_up kc k _ q = kc q from if_neg e]
          exact t1
        · intro a b ha hb
          show fb_put mk mt (64 * k) 64 (64 * q + (8 * a + b)) = _ ∧ _
          rw [fb_put_out (by omega)]
          exact t2 a b ha hb
    · rw [show (64 : Int32) = nI 64 from rfl, pk_mul, nI_add]
      refine ⟨vp_in_nI hlt (by decide), vp_in_nI (by omega) (by decide), hR hlt _ _ ⟨nI_1 i, ?_⟩⟩
      rw [nI_clamp (by omega), nI_clamp (by omega)]
      exact fb_put_succ mk mt (64 * k) i
  · exact s_in4 (fun q => absurd q a1) (fun _ => y0' (z0 ⟨rfl, hk⟩))
