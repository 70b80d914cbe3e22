/-! The least joining that goes with all turns. -/
def cl (T : Nat → Nat → Nat) (L : Nat → Nat) (a b c : Nat) : Prop := L (T a c) = L (T b c) ∧ L (T c a) = L (T c b)
def parC (T : Nat → Nat → Nat) (N a0 b0 : Nat) (f : Nat → Nat) : Prop := f a0 = f b0 ∧ ∀ x y c, x < N → y < N → c < N → f x = f y → cl T f x y c
/-- L' comes from L by joins that must be; ch says whether there was one -/
def ext (T : Nat → Nat → Nat) (N a0 b0 : Nat) (L L' : Nat → Nat) (ch : Int32) : Prop := (labOk N (parC T N a0 b0) L' ∧ idem N L') ∧ (∀ p q, L p = L q → L' p = L' q) ∧ ((ch = 0 ∧ L' = L) ∨ (ch = 1 ∧ rk L' N + 1 ≤ rk L N))
theorem ext_refl {T : Nat → Nat → Nat} {N a0 b0 : Nat} {L : Nat → Nat} (h : labOk N (parC T N a0 b0) L ∧ idem N L) : ext T N a0 b0 L L 0 := ⟨h, fun _ _ e => e, Or.inl ⟨rfl, rfl⟩⟩
theorem ext_zb {T : Nat → Nat → Nat} {N a0 b0 : Nat} {L L' : Nat → Nat} {ch : Int32} (h : ext T N a0 b0 L L' ch) : zb ch := h.2.2.imp (fun q => q.1) (fun q => q.1)
theorem ext_rk {T : Nat → Nat → Nat} {N a0 b0 : Nat} {L L' : Nat → Nat} {ch : Int32} (h : ext T N a0 b0 L L' ch) : rk L' N ≤ rk L N := by
  rcases h.2.2 with ⟨-, e⟩ | ⟨-, e⟩
  · rw [e]
    exact Nat.le_refl _
  · omega
theorem ext_j1 {T : Nat → Nat → Nat} {N a0 b0 x y : Nat} {L L' : Nat → Nat} {ch : Int32} (h : ext T N a0 b0 L L' ch) (hx : x < N) (hy : y < N) (he : ∀ f, parC T N a0 b0 f → f x = f y) (hne : L' x ≠ L' y) : ext T N a0 b0 L (jn L' x y) 1 :=
  ⟨⟨jn_ok h.1.1 hx hy he, jn_idem h.1.2 hx hy⟩, fun p q e => jn_keep (h.2.1 p q e), Or.inr ⟨rfl, Nat.le_trans (jn_rk h.1.2 hx hy hne) (ext_rk h)⟩⟩
theorem ext_j0 {T : Nat → Nat → Nat} {N a0 b0 x y : Nat} {L L' : Nat → Nat} {ch : Int32} (h : ext T N a0 b0 L L' ch) (heq : L' x = L' y) : ext T N a0 b0 L (jn L' x y) ch := by
  have e : jn L' x y = L' := funext fun c => jn_same heq c
  rw [e]
  exact h
theorem cl_keep {T : Nat → Nat → Nat} {L L' : Nat → Nat} {a b c : Nat} (h : cl T L a b c) (hk : ∀ p q, L p = L q → L' p = L' q) : cl T L' a b c := ⟨hk _ _ h.1, hk _ _ h.2⟩
theorem par_must {T : Nat → Nat → Nat} {N a0 b0 a b c : Nat} {L f : Nat → Nat} (h : labOk N (parC T N a0 b0) L) (ha : a < N) (hb : b < N) (hc : c < N) (e : L a = L b) (hf : parC T N a0 b0 f) : cl T f a b c :=
  hf.2 a b c ha hb hc (by rw [← h.2 f hf a ha, ← h.2 f hf b hb, e])
theorem s_turnsOf {T : Nat → Nat → Nat} {N a0 b0 a b : Nat} {L : Nat → Nat} {c ld : Nat → Int32} {K : Int32 → (Nat → Int32) → Prop} (ht : tab c N T) (hN : N ≤ 8) (hl : lbl ld N L) (hL : labOk N (parC T N a0 b0) L ∧ idem N L) (ha : a < N) (hb : b < N) (hab : L a = L b)
    (h : ∀ ld' L' ch, lbl ld' N L' → ext T N a0 b0 L L' ch → (∀ d, d < N → cl T L' a b d) → K ch ld') : pX10_joinTurnsOf (nI N) ld (nI N) c (nI a) (nI b) K := by
  refine lpW3_for N (fun i x3 x4 f => x4 = nI i ∧ ∃ L', lbl f N L' ∧ ext T N a0 b0 L L' x3 ∧ ∀ d, d < i → cl T L' a b d) 0 (Nat.zero_le _) ⟨nI_0.symm, L, hl, ext_refl hL, fun d hd => absurd hd (Nat.not_lt_zero _)⟩ ?_
  rintro i hi x3 x4 f ⟨rfl, L1, hl1, e1, d1⟩ R hR
  refine pk_le N i (fun hle => ?_) (fun hlt => ?_)
  · have e : i = N := by omega
    subst e
    exact ⟨ext_zb e1, h f L1 x3 hl1 e1 d1⟩
  · have t1 := (ht a i ha hlt).2
    have t2 := (ht b i hb hlt).2
    have t3 := (ht i a hlt ha).2
    have t4 := (ht i b hlt hb).2
    have must : ∀ f, parC T N a0 b0 f → cl T f a b i := fun f hf => par_must hL.1 ha hb hlt hab hf
    have fin : ∀ ch f' L2, lbl f' N (jn L2 (T i a) (T i b)) → ext T N a0 b0 L (jn L2 (T i a) (T i b)) ch → L2 = jn L1 (T a i) (T b i) → R ch (nI i + 1) f' := by
      rintro ch f' L2 hl' he rfl
      refine hR hlt _ _ _ ⟨nI_1 i, _, hl', he, fun d hd => ?_⟩
      rcases Nat.lt_or_ge d i with q | q
      · exact cl_keep (d1 d q) (fun p q e => jn_keep (jn_keep e))
      · have e : d = i := by omega
        subst e
        exact ⟨jn_keep (jn_eq L1 _ _), jn_eq _ _ _⟩
    refine t_turned ht hN ha hlt (t_turned ht hN hb hlt ?_)
    refine s_joinC hN t1 t2 hl1 e1.1.1.1 (fun hne f2 hl2 => ?_) (fun heq f2 hl2 => ?_)
    · have e2 := ext_j1 e1 t1 t2 (fun f hf => (must f hf).1) hne
      refine t_turned ht hN hlt ha (t_turned ht hN hlt hb ?_)
      refine s_joinC hN t3 t4 hl2 e2.1.1.1 (fun hne2 f3 hl3 => ?_) (fun heq2 f3 hl3 => ?_)
      · have e3 := ext_j1 e2 t3 t4 (fun f hf => (must f hf).2) hne2
        have g := fin 1 f3 _ hl3 e3 rfl
        exact ⟨fun _ => g, fun _ => ⟨fun _ => g, fun q => absurd q (by decide)⟩⟩
      · have e3 := ext_j0 e2 heq2
        have g := fin 1 f3 _ hl3 e3 rfl
        exact ⟨fun _ => g, fun _ => ⟨fun _ => g, fun q => absurd q (by decide)⟩⟩
    · have e2 := ext_j0 e1 heq
      refine t_turned ht hN hlt ha (t_turned ht hN hlt hb ?_)
      refine s_joinC hN t3 t4 hl2 e2.1.1.1 (fun hne2 f3 hl3 => ?_) (fun heq2 f3 hl3 => ?_)
      · have e3 := ext_j1 e2 t3 t4 (fun f hf => (must f hf).2) hne2
        have g := fin 1 f3 _ hl3 e3 rfl
        exact ⟨fun _ => g, fun _ => ⟨fun _ => g, fun _ => ⟨fun q => absurd q (by decide), fun _ => g⟩⟩⟩
      · have e3 := ext_j0 e2 heq2
        rcases ext_zb e3 with rfl | rfl
        · have g := fin 0 f3 _ hl3 e3 rfl
          exact ⟨fun q => absurd rfl q, fun _ => ⟨fun q => absurd rfl q, fun _ => ⟨fun _ => g, fun q => absurd rfl q⟩⟩⟩
        · have g := fin 1 f3 _ hl3 e3 rfl
          exact ⟨fun _ => g, fun q => absurd q (by decide)⟩
theorem ext_trans {T : Nat → Nat → Nat} {N a0 b0 : Nat} {L L' L'' : Nat → Nat} {ch ch' : Int32} (h : ext T N a0 b0 L L' ch) (h' : ext T N a0 b0 L' L'' ch') : ext T N a0 b0 L L'' (if ch' = 0 then ch else 1) := by
  refine ⟨h'.1, fun p q e => h'.2.1 p q (h.2.1 p q e), ?_⟩
  rcases h'.2.2 with ⟨e, e2⟩ | ⟨e, e2⟩
  · rw [if_pos e, e2]
    exact h.2.2
  · rw [if_neg (by rw [e]; decide)]
    exact Or.inr ⟨rfl, Nat.le_trans e2 (ext_rk h)⟩
/-- what stands between two rounds: r rounds are done -/
def rndI (T : Nat → Nat → Nat) (N a0 b0 r : Nat) (ch : Int32) (f : Nat → Int32) : Prop := ∃ L, lbl f N L ∧ (labOk N (parC T N a0 b0) L ∧ idem N L) ∧ L a0 = L b0 ∧ ((ch = 1 ∧ rk L N + r ≤ N) ∨ (ch = 0 ∧ lab N (parC T N a0 b0) L))
theorem rnd_next {T : Nat → Nat → Nat} {N a0 b0 r : Nat} {ch : Int32} {f : Nat → Int32} {L0 L : Nat → Nat} (h0 : L0 a0 = L0 b0) (hr : rk L0 N + r ≤ N) (hl : lbl f N L) (he : ext T N a0 b0 L0 L ch) (hc : ∀ a b c, a < N → b < N → c < N → L0 a = L0 b → cl T L a b c) : rndI T N a0 b0 (r + 1) ch f := by
  refine ⟨L, hl, he.1, he.2.1 _ _ h0, ?_⟩
  rcases he.2.2 with ⟨e, e2⟩ | ⟨e, e2⟩
  · refine Or.inr ⟨e, he.1.1, ?_, fun x y c hx hy hcc hxy => ?_⟩
    · rw [e2]
      exact h0
    · exact hc x y c hx hy hcc (by rw [← e2]; exact hxy)
  · exact Or.inl ⟨e, by omega⟩
theorem s_joinAll {T : Nat → Nat → Nat} {N a0 b0 : Nat} {L : Nat → Nat} {c ld : Nat → Int32} {K : (Nat → Int32) → Prop} (ht : tab c N T) (h1 : 1 ≤ N) (hN : N ≤ 8) (hl : lbl ld N L) (hL : labOk N (parC T N a0 b0) L ∧ idem N L) (hab : L a0 = L b0)
    (h : ∀ ld' M, lbl ld' N M → lab N (parC T N a0 b0) M → K ld') : pX10_joinWhatMustBeOne (nI N) ld (nI N) c K := by
  refine lpW3_for N (fun r x1 x2 f => x2 = nI r ∧ rndI T N a0 b0 r x1 f) 0 (Nat.zero_le _) ⟨nI_0.symm, L, hl, hL, hab, Or.inl ⟨rfl, rk_le L N⟩⟩ ?_
  rintro r hr x1 x2 f ⟨rfl, L0, hl0, ok0, ab0, g0⟩ R hR
  have ex : x1 = 0 → K f := fun e => by
    rcases g0 with ⟨e2, -⟩ | ⟨-, g⟩
    · rw [e2] at e
      exact absurd e (by decide)
    · exact h f L0 hl0 g
  refine pk_le N r (fun hle => ?_) (fun hlt => ?_)
  · rcases g0 with ⟨-, g⟩ | ⟨e, -⟩
    · have := rk_pos ok0.2 h1
      omega
    · exact ex e
  · refine ⟨ex, fun hne => ?_⟩
    have hrk : rk L0 N + r ≤ N := by
      rcases g0 with ⟨-, g⟩ | ⟨e, -⟩
      · exact g
      · exact absurd e hne
    refine lpW3_for N (fun i x1 x3 f => x3 = nI i ∧ ∃ L1, lbl f N L1 ∧ ext T N a0 b0 L0 L1 x1 ∧ ∀ a b d, a < i → a < b → b < N → d < N → L0 a = L0 b → cl T L1 a b d) 0 (Nat.zero_le _) ⟨nI_0.symm, L0, hl0, ext_refl ok0, fun a b d ha => absurd ha (Nat.not_lt_zero _)⟩ ?_
    rintro i hi x1 x3 f ⟨rfl, L1, hl1, e1, d1⟩ R2 hR2
    refine pk_le N i (fun hle2 => ?_) (fun hlt2 => ?_)
    · have e : i = N := by omega
      subst e
      refine hR hlt _ _ _ ⟨nI_1 r, rnd_next ab0 hrk hl1 e1 (fun a b d ha hb hd hq => ?_)⟩
      rcases Nat.lt_trichotomy a b with q | q | q
      · exact d1 a b d ha q hb hd hq
      · subst q
        exact ⟨rfl, rfl⟩
      · have w := d1 b a d hb q ha hd hq.symm
        exact ⟨w.1.symm, w.2.symm⟩
    · refine lpW3_for N (fun j x1 x4 f => x4 = nI j ∧ i < j ∧ ∃ L1, lbl f N L1 ∧ ext T N a0 b0 L0 L1 x1 ∧ (∀ a b d, a < i → a < b → b < N → d < N → L0 a = L0 b → cl T L1 a b d) ∧ ∀ b d, i < b → b < j → d < N → L0 i = L0 b → cl T L1 i b d) (i + 1) hlt2 ⟨nI_1 i, Nat.lt_succ_self _, L1, hl1, e1, d1, fun b d h1 h2 => by omega⟩ ?_
      rintro j hj x1 x4 f ⟨rfl, hij, L2, hl2, e2, d2, d3⟩ R3 hR3
      refine pk_le N j (fun hle3 => ?_) (fun hlt3 => ?_)
      · have e : j = N := by omega
        subst e
        refine hR2 hlt2 _ _ _ ⟨nI_1 i, L2, hl2, e2, fun a b d ha hab' hb hd hq => ?_⟩
        rcases Nat.lt_or_ge a i with q | q
        · exact d2 a b d q hab' hb hd hq
        · have e : a = i := by omega
          subst e
          exact d3 b d hab' hb hd hq
      · have bi := (e2.1.2 i hlt2).1
        have bj := (e2.1.2 j hlt3).1
        refine ⟨vp_in_nI (by omega) (by decide), vp_in_nI (by omega) (by decide), ?_⟩
        rw [nI_clamp (by omega), nI_clamp (by omega), hl2 i hlt2, hl2 j hlt3]
        refine pk_ne (L2 i) (L2 j) (by omega) (by omega) (fun e => z1 (y1 ?_)) (fun e => z0 (y0 ?_))
        · refine s_turnsOf ht hN hl2 e2.1 hlt2 hlt3 e (fun ld' L3 ch hl3 e3 d4 => ?_)
          have e4 := ext_trans e2 e3
          have fin : ∀ v, v = (if ch = 0 then x1 else 1) → R3 v (nI j + 1) ld' := by
            rintro v rfl
            refine hR3 hlt3 _ _ _ ⟨nI_1 j, by omega, L3, hl3, e4, fun a b d ha hb hc hd hq => cl_keep (d2 a b d ha hb hc hd hq) e3.2.1, fun b d h5 h6 hd hq => ?_⟩
            rcases Nat.lt_or_ge b j with q | q
            · exact cl_keep (d3 b d h5 q hd hq) e3.2.1
            · have e : b = j := by omega
              subst e
              exact d4 d hd
          exact ⟨fun q => fin _ (by rw [if_pos q]), fun q => fin _ (by rw [if_neg q])⟩
        · refine hR3 hlt3 _ _ _ ⟨nI_1 j, by omega, L2, hl2, e2, d2, fun b d h5 h6 hd hq => ?_⟩
          rcases Nat.lt_or_ge b j with q | q
          · exact d3 b d h5 q hd hq
          · have e' : b = j := by omega
            subst e'
            exact absurd (e2.2.1 _ _ hq) e
theorem s_melts {N x y : Nat} {ld : Nat → Int32} {L : Nat → Nat} {K : Int32 → (Nat → Int32) → Prop} (hN : N ≤ 8) (hx : x < N) (hy : y < N) (hl : lbl ld N L) (hL : ∀ b, b < N → L b ≤ b)
    (h1 : L x ≠ L y → ∀ ld', lbl ld' N (jn L x y) → K 1 ld') (h0 : L x = L y → ∀ ld', lbl ld' N (jn L x y) → K 0 ld') : pX11_melts (nI N) ld (nI x) (nI y) K := by
  have bx := hL x hx
  have byy := hL y hy
  refine ⟨vp_in_nI (by omega) (by decide), vp_in_nI (by omega) (by decide), vp_in_nI (by omega) (by decide), vp_in_nI (by omega) (by decide), ?_⟩
  rw [nI_clamp (by omega), nI_clamp (by omega), hl x hx, hl y hy, n_if (by omega) (by omega), n_if (by omega) (by omega)]
  refine lpW2_for N (fun i a f => a = nI i ∧ ∀ c, c < N → f c = nI (if c < i then jn L x y c else L c)) 0 (Nat.zero_le _) ⟨nI_0.symm, fun c hc => by rw [if_neg (Nat.not_lt_zero _)]; exact hl c hc⟩ ?_
  rintro i hi a f ⟨rfl, hf⟩ R hR
  refine pk_le N i (fun hle => ?_) (fun hlt => ?_)
  · have e : i = N := by omega
    subst e
    have hl' : lbl f i (jn L x y) := fun c hc => by rw [hf c hc, if_pos hc]
    have hb1 : lo2 L x y < 8 := by rcases lohi L x y with ⟨p, q, -⟩ | ⟨p, q, -⟩ <;> omega
    have hb2 : hi2 L x y < 8 := by rcases lohi L x y with ⟨p, q, -⟩ | ⟨p, q, -⟩ <;> omega
    refine pk_eq (lo2 L x y) (hi2 L x y) (fun e => z0 (h0 ?_ f hl')) (fun e => z1 (h1 ?_ f hl'))
    · rcases lohi L x y with ⟨p, q, -⟩ | ⟨p, q, -⟩ <;> omega
    · rcases lohi L x y with ⟨p, q, -⟩ | ⟨p, q, -⟩ <;> omega
  · have bi := hL i hlt
    have hb2 : hi2 L x y < 8 := by rcases lohi L x y with ⟨p, q, -⟩ | ⟨p, q, -⟩ <;> omega
    have fin : ∀ v, v = nI (jn L x y i) → pX11_melts_74 (nI N) R K (nI (lo2 L x y)) (nI (hi2 L x y)) (nI i) (nI i) v f := by
      rintro v rfl
      refine ⟨vp_in_nI (by omega) (by decide), hR hlt _ _ ⟨nI_1 i, fun c hc => ?_⟩⟩
      rw [nI_clamp (by omega)]
      by_cases e : c = i
      · rw [e, pk_us, if_pos (Nat.lt_succ_self _)]
      · rw [pk_un e, hf c hc]
        by_cases e2 : c < i
        · rw [if_pos e2, if_pos (by omega)]
        · rw [if_neg e2, if_neg (by omega)]
    refine ⟨vp_in_nI (by omega) (by decide), ?_⟩
    rw [nI_clamp (by omega), hf i hlt, if_neg (Nat.lt_irrefl _)]
    refine pk_ne (L i) (hi2 L x y) (by omega) (by omega) (fun e => fin _ ?_) (fun e => ⟨vp_in_nI (by omega) (by decide), fin _ ?_⟩)
    · show nI (lo2 L x y) = _
      unfold jn
      rw [if_pos e]
    · unfold jn
      rw [if_neg e]
/-! the classes as a table -/
def num (M : Nat → Nat) (c : Nat) : Nat := rk M (M c)
def rp (M : Nat → Nat) (N i : Nat) : Nat := (findO (fun r => if M r = r ∧ rk M r = i then some r else none) N).getD 0
theorem rp_ok {M : Nat → Nat} {N i : Nat} (h : i < rk M N) : rp M N i < N ∧ M (rp M N i) = rp M N i ∧ rk M (rp M N i) = i := by
  obtain ⟨r, hr, e1, e2⟩ := fb_ct_kth h
  have e1' : M r = r := by simpa using e1
  unfold rp
  cases e : findO (fun r => if M r = r ∧ rk M r = i then some r else none) N with
  | none =>
    have := findO_none.mp e r hr
    rw [if_pos ⟨e1', e2⟩] at this
    cases this
  | some q =>
    obtain ⟨j, hj, e3, -⟩ := findO_some e
    split at e3
    · cases e3
      rename_i w
      exact ⟨hj, w.1, w.2⟩
    · cases e3
theorem num_lt {M : Nat → Nat} {N c : Nat} (h : idem N M) (hc : c < N) : num M c < rk M N := by
  obtain ⟨h1, h2⟩ := h c hc
  have e := rk_s M (M c)
  rw [if_pos h2] at e
  have := fb_ct_mono (fun c => M c == c) (show M c + 1 ≤ N by omega)
  unfold num
  unfold rk at e ⊢
  omega
theorem num_rp {M : Nat → Nat} {N i : Nat} (h : i < rk M N) : num M (rp M N i) = i := by
  obtain ⟨_, h2, h3⟩ := rp_ok h
  unfold num
  rw [h2, h3]
theorem rp_num {M : Nat → Nat} {N c : Nat} (h : idem N M) (hc : c < N) : rp M N (num M c) = M c := by
  obtain ⟨_, h2, h3⟩ := rp_ok (num_lt h hc)
  exact fb_ct_kth_one (p := fun c => M c == c) (by simpa using h2) (by simpa using (h c hc).2) h3
def qT (T : Nat → Nat → Nat) (M : Nat → Nat) (N i j : Nat) : Nat := num M (T (rp M N i) (rp M N j))
theorem qT_num {T : Nat → Nat → Nat} {M : Nat → Nat} {N a0 b0 c d : Nat} (hM : lab N (parC T N a0 b0) M) (hc : c < N) (hd : d < N) : qT T M N (num M c) (num M d) = num M (T c d) := by
  have hI := lab_idem' hM
  have b1 := (hI c hc).1
  have b2 := (hI d hd).1
  unfold qT
  rw [rp_num hI hc, rp_num hI hd]
  have e1 := (hM.2.2 (M c) c d (by omega) hc hd (hI c hc).2).1
  have e2 := (hM.2.2 (M d) d (M c) (by omega) hd (by omega) (hI d hd).2).2
  unfold num
  rw [e2, e1]
theorem tab_q {T : Nat → Nat → Nat} {M : Nat → Nat} {N : Nat} {c : Nat → Int32} (hI : idem N M) (hT : ∀ a b, a < N → b < N → T a b < N) (h : ∀ a b, a < N → b < N → c (8 * num M a + num M b) = nI (qT T M N (num M a) (num M b))) : tab c (rk M N) (qT T M N) := by
  intro i j hi hj
  obtain ⟨p1, -, -⟩ := rp_ok hi
  obtain ⟨p2, -, -⟩ := rp_ok hj
  have e := h _ _ p1 p2
  rw [num_rp hi, num_rp hj] at e
  exact ⟨e, num_lt hI (hT _ _ p1 p2)⟩
theorem s_partX {N : Nat} {T : Nat → Nat → Nat} {M : Nat → Nat} {a0 b0 : Nat} {kn dn : Int32} {c kl nm dc wv : Nat → Int32} {K : Int32 → Int32 → (Nat → Int32) → (Nat → Int32) → Int32 → (Nat → Int32) → Int32 → (Nat → Int32) → (Nat → Int32) → Prop} (ht : tab c N T) (hN : N ≤ 8) (hM : lab N (parC T N a0 b0) M) (hnm : lbl nm N (num M))
    (h : ∀ dc', tab dc' (rk M N) (qT T M N) → K dn kn kl nm dn (va_cpy dc' c 0 0 64) dn dc' (fa_fill (fun _ => 0) wv 64)) : lpW2 (pX10_part_78 K kn kl nm (nI N) c dn wv) (0 : Int32) dc := by
  have hI := lab_idem' hM
  have hr := rk_le M N
  refine lpW2_for N (fun i x3 f => x3 = nI i ∧ ∀ a b, a < i → b < N → f (8 * num M a + num M b) = nI (qT T M N (num M a) (num M b))) 0 (Nat.zero_le _) ⟨nI_0.symm, fun a b ha => absurd ha (Nat.not_lt_zero _)⟩ ?_
  rintro i hi x3 f ⟨rfl, hf⟩ R hR
  refine pk_le N i (fun hle => ?_) (fun hlt => ?_)
  · have e : i = N := by omega
    subst e
    exact s_adopt (h f (tab_q hI (fun a b ha hb => (ht a b ha hb).2) hf))
  · refine lpW2_for N (fun j x4 f => x4 = nI j ∧ (∀ a b, a < i → b < N → f (8 * num M a + num M b) = nI (qT T M N (num M a) (num M b))) ∧ ∀ b, b < j → f (8 * num M i + num M b) = nI (qT T M N (num M i) (num M b))) 0 (Nat.zero_le _) ⟨nI_0.symm, hf, fun b hb => absurd hb (Nat.not_lt_zero _)⟩ ?_
    rintro j hj x4 f ⟨rfl, hf1, hf2⟩ R2 hR2
    refine pk_le N j (fun hle2 => ?_) (fun hlt2 => ?_)
    · have e : j = N := by omega
      subst e
      refine hR hlt _ _ ⟨nI_1 i, fun a b ha hb => ?_⟩
      rcases Nat.lt_or_ge a i with q | q
      · exact hf1 a b q hb
      · have e : a = i := by omega
        subst e
        exact hf2 b hb
    · have bt := (ht i j hlt hlt2).2
      have n1 := num_lt hI hlt
      have n2 := num_lt hI hlt2
      have n3 := num_lt hI bt
      refine ⟨vp_in_nI (by omega) (by decide), ?_⟩
      rw [nI_clamp (by omega), hnm i hlt]
      refine ⟨vp_in_nI (by omega) (by decide), ?_⟩
      rw [nI_clamp (by omega), hnm j hlt2]
      refine t_turned ht hN hlt hlt2 ⟨vp_in_nI (by omega) (by decide), ?_⟩
      rw [nI_clamp (by omega), hnm _ bt]
      refine e_put (by omega) (by omega) (hR2 hlt2 _ _ ⟨nI_1 j, ?_⟩)
      have key : ∀ a b, a < N → b < N → (f (8 * num M a + num M b) = nI (qT T M N (num M a) (num M b)) ∨ (a = i ∧ b = j)) → upd f (8 * num M i + num M j) (nI (num M (T i j))) (8 * num M a + num M b) = nI (qT T M N (num M a) (num M b)) := by
        intro a b ha hb hh
        have q1 := num_lt hI ha
        have q2 := num_lt hI hb
        by_cases e : 8 * num M a + num M b = 8 * num M i + num M j
        · rw [e, pk_us]
          have ea : num M a = num M i := by omega
          have eb : num M b = num M j := by omega
          rw [ea, eb, qT_num hM hlt hlt2]
        · rw [pk_un e]
          rcases hh with hh | ⟨rfl, rfl⟩
          · exact hh
          · exact absurd rfl e
      refine ⟨fun a b ha hb => key a b (by omega) hb (Or.inl (hf1 a b ha hb)), fun b hb => ?_⟩
      rcases Nat.lt_or_ge b j with q | q
      · exact key i b hlt (by omega) (Or.inl (hf2 b q))
      · exact key i b hlt (by omega) (Or.inr ⟨rfl, by omega⟩)
theorem tab_fill64 {c d : Nat → Int32} {N : Nat} {T : Nat → Nat → Nat} (ht : tab c N T) (hN : N ≤ 8) : tab (fa_fill c d 64) N T := by
  intro a b ha hb
  rw [fa_fill_in (by omega)]
  exact ht a b ha hb
theorem s_partM {N : Nat} {T : Nat → Nat → Nat} {M : Nat → Nat} {a0 b0 : Nat} {x1 x2 thr : Int32} {mh md mp mt mv : Nat → Int32} {K : Int32 → Int32 → Int32 → (Nat → Int32) → (Nat → Int32) → (Nat → Int32) → (Nat → Int32) → (Nat → Int32) → Prop} (ht : tab mt N T) (h1 : 1 ≤ N) (hN : N ≤ 8) (ha0 : a0 < N) (hb0 : b0 < N) (hM : lab N (parC T N a0 b0) M)
    (e1 : x1 = nI a0) (e2 : x2 = nI b0)
    (h : ∀ mh' md' mp', tab md' (rk M N) (qT T M N) → K (nI (rk M N)) thr (nI (rk M N)) mh' md' mp' (fa_fill md' mt 64) (fa_fill (fun _ => 0) mv 64)) : lpW2 (pX11_part_32 K x1 x2 thr (nI N) mh md mt mv) (0 : Int32) mp := by
  subst e1 e2
  have hI := lab_idem' hM
  have hr := rk_le M N
  refine lpW2_for N (fun i a f => a = nI i ∧ lbl f i (fun b => b)) 0 (Nat.zero_le _) ⟨nI_0.symm, fun b hb => absurd hb (Nat.not_lt_zero _)⟩ ?_
  rintro i hi a f ⟨rfl, hf⟩ R hR
  refine pk_le N i (fun hle => ?_) (fun hlt => ?_)
  · have e : i = N := by omega
    subst e
    have okid : labOk i (parC T i a0 b0) (fun b => b) ∧ idem i (fun b => b) := ⟨labOk_id i _, fun b _ => ⟨Nat.le_refl _, rfl⟩⟩
    have go : ∀ ch f', rndI T i a0 b0 0 ch f' → lpW2 (pX11_part_60 R K thr (nI i) mh md mt mv) ch f' := by
      intro ch f' hst
      refine lpW2_for i (fun r x3 g => rndI T i a0 b0 r x3 g) 0 (Nat.zero_le _) hst ?_
      rintro r hr2 x3 g ⟨L0, hl0, ok0, ab0, g0⟩ R1 hR1
      refine ⟨fun e0 => ?_, fun hne => ?_⟩
      · have hlab : lab i (parC T i a0 b0) L0 := by
          rcases g0 with ⟨q, -⟩ | ⟨-, q⟩
          · rw [q] at e0
            exact absurd e0 (by decide)
          · exact q
        refine s_numberedM hN (lbl_cong hl0 (lab_one hlab hM)) hI (fun h' o' ho => ?_)
        refine lpW2_for i (fun p x5 g => x5 = nI p ∧ ∀ a b, a < p → b < i → g (8 * num M a + num M b) = nI (qT T M i (num M a) (num M b))) 0 (Nat.zero_le _) ⟨nI_0.symm, fun a b ha => absurd ha (Nat.not_lt_zero _)⟩ ?_
        rintro p hp x5 g ⟨rfl, hg⟩ R2 hR2
        refine pk_le i p (fun hle2 => ?_) (fun hlt2 => ?_)
        · have e : p = i := by omega
          subst e
          exact s_becomes (h h' g o' (tab_q hI (fun a b ha hb => (ht a b ha hb).2) hg))
        · refine lpW2_for i (fun j x6 g => x6 = nI j ∧ (∀ a b, a < p → b < i → g (8 * num M a + num M b) = nI (qT T M i (num M a) (num M b))) ∧ ∀ b, b < j → g (8 * num M p + num M b) = nI (qT T M i (num M p) (num M b))) 0 (Nat.zero_le _) ⟨nI_0.symm, hg, fun b hb => absurd hb (Nat.not_lt_zero _)⟩ ?_
          rintro j hj x6 g ⟨rfl, hg1, hg2⟩ R3 hR3
          refine pk_le i j (fun hle3 => ?_) (fun hlt3 => ?_)
          · have e : j = i := by omega
            subst e
            refine hR2 hlt2 _ _ ⟨nI_1 p, fun a b ha hb => ?_⟩
            rcases Nat.lt_or_ge a p with q | q
            · exact hg1 a b q hb
            · have e : a = p := by omega
              subst e
              exact hg2 b hb
          · have bt := (ht p j hlt2 hlt3).2
            have n1 := num_lt hI hlt2
            have n2 := num_lt hI hlt3
            have n3 := num_lt hI bt
            refine ⟨vp_in_nI (by omega) (by decide), vp_in_nI (by omega) (by decide), t_by ht hN hlt2 hlt3 ⟨vp_in_nI (by omega) (by decide), ?_⟩⟩
            rw [nI_clamp (by omega), nI_clamp (by omega), nI_clamp (by omega), ho p hlt2, ho j hlt3, ho _ bt, ix8']
            refine ⟨vp_in_nI (by show 8 * num M p + num M j < 64; omega) (by decide), ?_⟩
            rw [nI_clamp (by show 8 * num M p + num M j < 2 ^ 31; omega)]
            refine hR3 hlt3 _ _ ⟨nI_1 j, ?_⟩
            have key : ∀ a b, a < i → b < i → (g (8 * num M a + num M b) = nI (qT T M i (num M a) (num M b)) ∨ (a = p ∧ b = j)) → upd g (8 * num M p + num M j) (nI (num M (T p j))) (8 * num M a + num M b) = nI (qT T M i (num M a) (num M b)) := by
              intro a b ha hb hh
              have q1 := num_lt hI ha
              have q2 := num_lt hI hb
              by_cases e : 8 * num M a + num M b = 8 * num M p + num M j
              · rw [e, pk_us]
                have ea : num M a = num M p := by omega
                have eb : num M b = num M j := by omega
                rw [ea, eb, qT_num hM hlt2 hlt3]
              · rw [pk_un e]
                rcases hh with hh | ⟨rfl, rfl⟩
                · exact hh
                · exact absurd rfl e
            refine ⟨fun a b ha hb => key a b (by omega) hb (Or.inl (hg1 a b ha hb)), fun b hb => ?_⟩
            rcases Nat.lt_or_ge b j with q | q
            · exact key p b hlt2 (by omega) (Or.inl (hg2 b q))
            · exact key p b hlt2 (by omega) (Or.inr ⟨rfl, by omega⟩)
      · have hrk : rk L0 i + r ≤ i := by
          rcases g0 with ⟨-, q⟩ | ⟨q, -⟩
          · exact q
          · exact absurd q hne
        have hpos := rk_pos ok0.2 h1
        refine lpW3_for i (fun p x3 x4 g => x4 = nI p ∧ ∃ L1, lbl g i L1 ∧ ext T i a0 b0 L0 L1 x3 ∧ ∀ a b d, a < p → b < i → d < i → L0 a = L0 b → cl T L1 a b d) 0 (Nat.zero_le _) ⟨nI_0.symm, L0, hl0, ext_refl ok0, fun a b d ha => absurd ha (Nat.not_lt_zero _)⟩ ?_
        rintro p hp x3 x4 g ⟨rfl, L1, hl1, e1, d1⟩ R2 hR2
        refine pk_le i p (fun hle2 => ?_) (fun hlt2 => ?_)
        · have e : p = i := by omega
          subst e
          exact hR1 (by omega) _ _ (rnd_next ab0 hrk hl1 e1 d1)
        · refine lpW3_for i (fun j x3 x5 g => x5 = nI j ∧ ∃ L1, lbl g i L1 ∧ ext T i a0 b0 L0 L1 x3 ∧ (∀ a b d, a < p → b < i → d < i → L0 a = L0 b → cl T L1 a b d) ∧ ∀ b d, b < j → d < i → L0 p = L0 b → cl T L1 p b d) 0 (Nat.zero_le _) ⟨nI_0.symm, L1, hl1, e1, d1, fun b d hb => absurd hb (Nat.not_lt_zero _)⟩ ?_
          rintro j hj x3 x5 g ⟨rfl, L2, hl2, e2, d2, d3⟩ R3 hR3
          refine pk_le i j (fun hle3 => ?_) (fun hlt3 => ?_)
          · have e : j = i := by omega
            subst e
            refine hR2 hlt2 _ _ _ ⟨nI_1 p, L2, hl2, e2, fun a b d ha hb hd hq => ?_⟩
            rcases Nat.lt_or_ge a p with q | q
            · exact d2 a b d q hb hd hq
            · have e : a = p := by omega
              subst e
              exact d3 b d hb hd hq
          · refine lpW3_for i (fun k x3 x6 g => x6 = nI k ∧ ∃ L1, lbl g i L1 ∧ ext T i a0 b0 L0 L1 x3 ∧ (∀ a b d, a < p → b < i → d < i → L0 a = L0 b → cl T L1 a b d) ∧ (∀ b d, b < j → d < i → L0 p = L0 b → cl T L1 p b d) ∧ ∀ d, d < k → cl T L1 p j d) 0 (Nat.zero_le _) ⟨nI_0.symm, L2, hl2, e2, d2, d3, fun d hd => absurd hd (Nat.not_lt_zero _)⟩ ?_
            rintro k hk x3 x6 g ⟨rfl, L3, hl3, e3, d4, d5, d6⟩ R4 hR4
            refine pk_le i k (fun hle4 => ?_) (fun hlt4 => ?_)
            · have e : k = i := by omega
              subst e
              refine hR3 hlt3 _ _ _ ⟨nI_1 j, L3, hl3, e3, d4, fun b d hb hd hq => ?_⟩
              rcases Nat.lt_or_ge b j with q | q
              · exact d5 b d q hd hq
              · have e : b = j := by omega
                subst e
                exact d6 d hd
            · have bi := (e3.1.2 p hlt2).1
              have bj := (e3.1.2 j hlt3).1
              refine ⟨vp_in_nI (by omega) (by decide), vp_in_nI (by omega) (by decide), ?_⟩
              rw [nI_clamp (by omega), nI_clamp (by omega), hl3 p hlt2, hl3 j hlt3]
              refine pk_ne (L3 p) (L3 j) (by omega) (by omega) (fun e => ?_) (fun e => ?_)
              · have t1 := (ht p k hlt2 hlt4).2
                have t2 := (ht j k hlt3 hlt4).2
                have t3 := (ht k p hlt4 hlt2).2
                have t4 := (ht k j hlt4 hlt3).2
                have must : ∀ f, parC T i a0 b0 f → cl T f p j k := fun f hf => par_must e3.1.1 hlt2 hlt3 hlt4 e hf
                have fin : ∀ ch f' L4, lbl f' i (jn L4 (T k p) (T k j)) → ext T i a0 b0 L0 (jn L4 (T k p) (T k j)) ch → L4 = jn L3 (T p k) (T j k) → R4 ch (nI k + 1) f' := by
                  rintro ch f' L4 hl' he rfl
                  have kp : ∀ p q, L3 p = L3 q → jn (jn L3 (T p k) (T j k)) (T k p) (T k j) p = jn (jn L3 (T p k) (T j k)) (T k p) (T k j) q := fun p q e => jn_keep (jn_keep e)
                  refine hR4 hlt4 _ _ _ ⟨nI_1 k, _, hl', he, fun a b d ha hb hd hq => cl_keep (d4 a b d ha hb hd hq) (fun p q e => jn_keep (jn_keep e)), fun b d hb hd hq => cl_keep (d5 b d hb hd hq) (fun p q e => jn_keep (jn_keep e)), fun d hd => ?_⟩
                  rcases Nat.lt_or_ge d k with q | q
                  · exact cl_keep (d6 d q) (fun p q e => jn_keep (jn_keep e))
                  · have e : d = k := by omega
                    subst e
                    exact ⟨jn_keep (jn_eq L3 _ _), jn_eq _ _ _⟩
                have snd : ∀ s0 f2, lbl f2 i (jn L3 (T p k) (T j k)) → ext T i a0 b0 L0 (jn L3 (T p k) (T j k)) s0 → pX11_part_151 R1 R2 R3 R4 K thr (nI i) mh md mt mv (nI p) (nI j) (nI k) s0 f2 := by
                  intro s0 f2 hl4 e4
                  refine t_by ht hN hlt4 hlt2 (t_by ht hN hlt4 hlt3 ?_)
                  refine s_melts hN t3 t4 hl4 e4.1.1.1 (fun hne2 f3 hl5 => ?_) (fun heq2 f3 hl5 => ?_)
                  · have e5 := ext_j1 e4 t3 t4 (fun f hf => (must f hf).2) hne2
                    exact y1' (fin 1 f3 _ hl5 e5 rfl)
                  · have e5 := ext_j0 e4 heq2
                    rcases ext_zb e5 with rfl | rfl
                    · exact y0' (y0 (fin 0 f3 _ hl5 e5 rfl))
                    · exact y0' (y1 (fin 1 f3 _ hl5 e5 rfl))
                refine t_by ht hN hlt2 hlt4 (t_by ht hN hlt3 hlt4 ?_)
                refine s_melts hN t1 t2 hl3 e3.1.1.1 (fun hne2 f2 hl4 => ?_) (fun heq2 f2 hl4 => ?_)
                · exact y1' (snd 1 f2 hl4 (ext_j1 e3 t1 t2 (fun f hf => (must f hf).1) hne2))
                · have e4 := ext_j0 e3 heq2
                  rcases ext_zb e4 with rfl | rfl
                  · exact y0' (y0 (snd 0 f2 hl4 e4))
                  · exact y0' (y1 (snd 1 f2 hl4 e4))
              · refine hR3 hlt3 _ _ _ ⟨nI_1 j, L3, hl3, e3, d4, fun b d hb hd hq => ?_⟩
                rcases Nat.lt_or_ge b j with q | q
                · exact d5 b d q hd hq
                · have e' : b = j := by omega
                  subst e'
                  exact absurd (e3.2.1 _ _ hq) e
    refine s_melts hN ha0 hb0 hf (fun b _ => Nat.le_refl b) (fun hne f' hl' => go 1 f' ⟨_, hl', ⟨jn_ok okid.1 ha0 hb0 (fun f hf => hf.1), jn_idem okid.2 ha0 hb0⟩, jn_eq _ _ _, Or.inl ⟨rfl, rk_le _ _⟩⟩) (fun heq f' hl' => go 0 f' ⟨fun b => b, lbl_cong hl' (fun b _ => jn_same heq b), okid, heq, Or.inr ⟨rfl, okid.1, heq, fun x y c hx hy hc e => ?_⟩⟩)
    have e' : x = y := e
    subst e'
    exact ⟨rfl, rfl⟩
  · refine ⟨vp_in_nI (by omega) (by decide), hR hlt _ _ ⟨nI_1 i, fun k hk => ?_⟩⟩
    rw [nI_clamp (by omega)]
    by_cases e : k = i
    · rw [e, pk_us]
    · rw [pk_un e]
      exact hf k (by omega)
theorem op_part {cn : Int32} {cc : Nat → Int32} {kn : Int32} {kl km : Nat → Int32} {dn : Int32} {dc wv : Nat → Int32} {thr mn : Int32} {mh md mp mt mv : Nat → Int32} {wm wm' x1 x2 : Int32} (h : RelT cn cc mn mt) (hw : RelW wm wv wm' mv) :
    pX10_part kn kl km cn cc dn dc wv x1 x2 (fun r _ _ _ a b _ _ w => pX11_part thr mn mh md mp mt mv x1 x2 (fun r' _ a' _ _ _ b' w' => r = r' ∧ RelT a b a' b' ∧ RelW wm w wm' w')) := by
  obtain ⟨N, T, h1, h8, rfl, rfl, hx, hm⟩ := h
  have hN : N < 2 ^ 31 := by omega
  have hR : RelT (nI N) cc (nI N) mt := ⟨N, T, h1, h8, rfl, rfl, hx, hm⟩
  refine s_has hN (fun a1 => y1 ?_) (fun a1 => y0 (s_isThing h1 hN (fun q => absurd q a1) (fun _ => y0 ⟨rfl, hR, hw⟩)))
  refine s_has hN (fun a2 => y1 ?_) (fun a2 => y0 (s_isThing h1 hN (fun _ => y1 (s_isThing h1 hN (fun q => absurd q a2) (fun _ => y0 ⟨rfl, hR, hw⟩))) (fun q => absurd a1 q)))
  refine s_isRack hx h8 (fun hk => y1' ?_) (fun hk => y0' (s_isThing h1 hN (fun _ => y1 (s_isThing h1 hN (fun _ => y1 (s_isRackM hm h8 (fun q => absurd q hk) (fun _ => y0' ⟨rfl, hR, hw⟩))) (fun q => absurd a2 q))) (fun q => absurd a1 q)))
  obtain ⟨a0, ha0, e1⟩ := id a1
  obtain ⟨b0, hb0, e2⟩ := id a2
  have okid : labOk N (parC T N a0 b0) (fun b => b) ∧ idem N (fun b => b) := ⟨labOk_id N _, fun b _ => ⟨Nat.le_refl _, rfl⟩⟩
  refine s_splitC h8 ?_
  have go : ∀ f', lbl f' N (jn (fun b => b) a0 b0) → pX10_joinWhatMustBeOne (nI N) f' (nI N) cc (fun t_classes_leader_59 => (pX1_number (nI N) t_classes_leader_59 km (fun r70 t_classes_numbers_70 => (lpW2 (pX10_part_78 (fun r _ _ _ a b _ _ w => pX11_part thr (nI N) mh md mp mt mv x1 x2 (fun r' _ a' _ _ _ b' w' => r = r' ∧ RelT a b a' b' ∧ RelW wm w wm' w')) (nI N) t_classes_leader_59 t_classes_numbers_70 (nI N) cc r70 wv) (0 : Int32) dc)))) := by
    intro f' hl'
    refine s_joinAll hx h1 h8 hl' ⟨jn_ok okid.1 ha0 hb0 (fun f hf => hf.1), jn_idem okid.2 ha0 hb0⟩ (jn_eq _ _ _) (fun ld' M hl2 hM => ?_)
    have hI := lab_idem' hM
    have hpos := rk_pos hI h1
    have hle := rk_le M N
    refine s_number h8 hl2 hI (fun nm hnm => ?_)
    refine s_partX hx h8 hM hnm (fun dc' hdc => ?_)
    refine s_isThing h1 hN (fun _ => y1 (s_isThing h1 hN (fun _ => y1 (s_isRackM hm h8 (fun _ => y1' ?_) (fun q => absurd hk q))) (fun q => absurd a2 q))) (fun q => absurd a1 q)
    refine s_partM hm h1 h8 ha0 hb0 hM e1 e2 (fun mh' md' mp' hmd => ⟨rfl, ⟨rk M N, qT T M N, hpos, by omega, rfl, rfl, tab_cpy hdc (by omega), tab_fill64 hmd (by omega)⟩, relW_flat' hw⟩)
  rw [e1, e2] at go ⊢
  exact s_joinC h8 ha0 hb0 (fun i hi => fa_fill_in hi) (fun b _ => Nat.le_refl b) (fun _ f' hl' => go f' hl') (fun _ f' hl' => go f' hl')
