/-! Labels: each thing goes by the least thing of its class. C says which functions are alike on what must be one. -/
def labOk (N : Nat) (C : (Nat → Nat) → Prop) (L : Nat → Nat) : Prop := (∀ b, b < N → L b ≤ b) ∧ ∀ f : Nat → Nat, C f → ∀ b, b < N → f (L b) = f b
def lab (N : Nat) (C : (Nat → Nat) → Prop) (L : Nat → Nat) : Prop := labOk N C L ∧ C L
theorem lab_le {N : Nat} {C : (Nat → Nat) → Prop} {L M : Nat → Nat} (h : labOk N C L) (hM : lab N C M) : ∀ b, b < N → M b ≤ L b := by
  intro b hb
  rw [← h.2 M hM.2 b hb]
  exact hM.1.1 _ (Nat.lt_of_le_of_lt (h.1 b hb) hb)
theorem lab_one {N : Nat} {C : (Nat → Nat) → Prop} {L M : Nat → Nat} (hL : lab N C L) (hM : lab N C M) : ∀ b, b < N → L b = M b := fun b hb =>
  Nat.le_antisymm (lab_le hM.1 hL b hb) (lab_le hL.1 hM b hb)
theorem lab_idem {N : Nat} {C : (Nat → Nat) → Prop} {M : Nat → Nat} (hM : lab N C M) : ∀ b, b < N → M (M b) = M b := fun b hb => hM.1.2 M hM.2 b hb
def lo2 (L : Nat → Nat) (x y : Nat) : Nat := if L y < L x then L y else L x
def hi2 (L : Nat → Nat) (x y : Nat) : Nat := if L x < L y then L y else L x
theorem lohi (L : Nat → Nat) (x y : Nat) : (lo2 L x y = L x ∧ hi2 L x y = L y ∧ L x ≤ L y) ∨ (lo2 L x y = L y ∧ hi2 L x y = L x ∧ L y ≤ L x) := by
  unfold lo2 hi2
  rcases Nat.lt_trichotomy (L x) (L y) with h | h | h
  · left
    rw [if_neg (by omega), if_pos h]
    exact ⟨rfl, rfl, by omega⟩
  · left
    rw [if_neg (by omega), if_neg (by omega)]
    exact ⟨rfl, h, by omega⟩
  · right
    rw [if_pos h, if_neg (by omega)]
    exact ⟨rfl, rfl, by omega⟩
def jn (L : Nat → Nat) (x y c : Nat) : Nat := if L c = hi2 L x y then lo2 L x y else L c
theorem jn_le (L : Nat → Nat) (x y c : Nat) : jn L x y c ≤ L c := by
  unfold jn
  split
  · rcases lohi L x y with ⟨a, b, h⟩ | ⟨a, b, h⟩ <;> omega
  · exact Nat.le_refl _
theorem jn_ok {N : Nat} {C : (Nat → Nat) → Prop} {L : Nat → Nat} {x y : Nat} (h : labOk N C L) (hx : x < N) (hy : y < N) (he : ∀ f, C f → f x = f y) : labOk N C (jn L x y) := by
  refine ⟨fun b hb => Nat.le_trans (jn_le L x y b) (h.1 b hb), fun f hf b hb => ?_⟩
  have e1 := h.2 f hf x hx
  have e2 := h.2 f hf y hy
  have e3 := h.2 f hf b hb
  have e4 := he f hf
  unfold jn
  split
  · rename_i e
    rcases lohi L x y with ⟨p, q, -⟩ | ⟨p, q, -⟩
    · rw [p, e1, e4, ← e2, ← q, ← e, e3]
    · rw [p, e2, ← e4, ← e1, ← q, ← e, e3]
  · exact e3
theorem jn_eq (L : Nat → Nat) (x y : Nat) : jn L x y x = jn L x y y := by
  unfold jn
  rcases lohi L x y with ⟨p, q, -⟩ | ⟨p, q, -⟩
  · rw [p, q]
    simp
  · rw [p, q]
    simp
theorem jn_keep {L : Nat → Nat} {x y a b : Nat} (h : L a = L b) : jn L x y a = jn L x y b := by
  unfold jn
  rw [h]
theorem jn_same {L : Nat → Nat} {x y : Nat} (h : L x = L y) (c : Nat) : jn L x y c = L c := by
  unfold jn
  rcases lohi L x y with ⟨p, q, -⟩ | ⟨p, q, -⟩
  · rw [p, q, ← h]
    split <;> simp_all
  · rw [p, q, ← h]
    split <;> simp_all
def idem (N : Nat) (L : Nat → Nat) : Prop := ∀ b, b < N → L b ≤ b ∧ L (L b) = L b
theorem jn_idem {N : Nat} {L : Nat → Nat} {x y : Nat} (h : idem N L) (hx : x < N) (hy : y < N) : idem N (jn L x y) := by
  intro b hb
  refine ⟨Nat.le_trans (jn_le L x y b) (h b hb).1, ?_⟩
  by_cases e : L x = L y
  · rw [jn_same e, jn_same e]
    exact (h b hb).2
  · have hlo : L (lo2 L x y) = lo2 L x y := by
      rcases lohi L x y with ⟨p, q, -⟩ | ⟨p, q, -⟩
      · rw [p]
        exact (h x hx).2
      · rw [p]
        exact (h y hy).2
    have hne : ¬ lo2 L x y = hi2 L x y := by
      rcases lohi L x y with ⟨p, q, -⟩ | ⟨p, q, -⟩
      · rw [p, q]
        exact e
      · rw [p, q]
        exact fun z => e z.symm
    by_cases e2 : L b = hi2 L x y
    · have e3 : jn L x y b = lo2 L x y := if_pos e2
      rw [e3]
      unfold jn
      rw [hlo, if_neg hne]
    · have e3 : jn L x y b = L b := if_neg e2
      rw [e3]
      unfold jn
      rw [(h b hb).2, if_neg e2]
/-- how many things below n go by themselves -/
def rk (L : Nat → Nat) (n : Nat) : Nat := fb_ct (fun c => L c == c) n
theorem rk_cong {L M : Nat → Nat} {n : Nat} (h : ∀ c, c < n → L c = M c) : rk L n = rk M n := fb_ct_cong (fun k hk => by rw [h k hk])
theorem jn_rk {N : Nat} {L : Nat → Nat} {x y : Nat} (h : idem N L) (hx : x < N) (hy : y < N) (hne : L x ≠ L y) : rk (jn L x y) N + 1 ≤ rk L N := by
  have hhi : L (hi2 L x y) = hi2 L x y ∧ hi2 L x y < N ∧ ¬ lo2 L x y = hi2 L x y ∧ L (lo2 L x y) = lo2 L x y := by
    rcases lohi L x y with ⟨p, q, -⟩ | ⟨p, q, -⟩
    · rw [p, q]
      exact ⟨(h y hy).2, Nat.lt_of_le_of_lt (h y hy).1 hy, hne, (h x hx).2⟩
    · rw [p, q]
      exact ⟨(h x hx).2, Nat.lt_of_le_of_lt (h x hx).1 hx, fun z => hne z.symm, (h y hy).2⟩
  obtain ⟨h1, h2, h3, h4⟩ := hhi
  have hu := fb_ct_upd (fun c => L c == c) false (i := hi2 L x y) h2
  have hs : fb_ct (fun c => jn L x y c == c) N ≤ fb_ct (fun k => if k = hi2 L x y then false else L k == k) N := by
    refine fb_ct_sub (fun k hk hp => ?_)
    have hp' : jn L x y k = k := by simpa using hp
    by_cases e : L k = hi2 L x y
    · have e3 : jn L x y k = lo2 L x y := if_pos e
      rw [e3] at hp'
      rw [← hp', h4] at e
      exact absurd e h3
    · have e3 : jn L x y k = L k := if_neg e
      rw [e3] at hp'
      have e5 : ¬ k = hi2 L x y := fun z => e (by rw [hp', z])
      simp [e5, hp']
  unfold rk
  simp only [h1, beq_self_eq_true, if_true] at hu
  simp only [Bool.false_eq_true, if_false] at hu
  omega
theorem rk_pos {N : Nat} {L : Nat → Nat} (h : idem N L) (hN : 0 < N) : 0 < rk L N := by
  refine fb_ct_pos.mpr ⟨0, hN, ?_⟩
  have := (h 0 hN).1
  simp
  omega
theorem lab_idem' {N : Nat} {C : (Nat → Nat) → Prop} {M : Nat → Nat} (hM : lab N C M) : idem N M := fun b hb => ⟨hM.1.1 b hb, lab_idem hM b hb⟩
/-! the orbits' condition -/
def orbC (T : Nat → Nat → Nat) (N : Nat) (f : Nat → Nat) : Prop := ∀ a b, a < N → b < N → f b = f (T a b)
theorem labOk_id (N : Nat) (C : (Nat → Nat) → Prop) : labOk N C (fun b => b) := ⟨fun b _ => Nat.le_refl b, fun _ _ _ _ => rfl⟩
theorem orb_ex {T : Nat → Nat → Nat} {N : Nat} (hT : ∀ a b, a < N → b < N → T a b < N) : ∃ M, lab N (orbC T N) M := by
  have key : ∀ i, i ≤ N → ∃ L, labOk N (orbC T N) L ∧ ∀ a b, a < i → b < N → L b = L (T a b) := by
    intro i
    induction i with
    | zero => exact fun _ => ⟨_, labOk_id N _, fun a b ha => absurd ha (Nat.not_lt_zero _)⟩
    | succ i ih =>
      intro hi
      obtain ⟨L0, h0, e0⟩ := ih (by omega)
      have key2 : ∀ j, j ≤ N → ∃ L, labOk N (orbC T N) L ∧ (∀ a b, a < i → b < N → L b = L (T a b)) ∧ ∀ b, b < j → L b = L (T i b) := by
        intro j
        induction j with
        | zero => exact fun _ => ⟨L0, h0, e0, fun b hb => absurd hb (Nat.not_lt_zero _)⟩
        | succ j ih2 =>
          intro hj
          obtain ⟨L, h1, e1, e2⟩ := ih2 (by omega)
          refine ⟨jn L j (T i j), jn_ok h1 (by omega) (hT _ _ (by omega) (by omega)) (fun f hf => hf i j (by omega) (by omega)), fun a b ha hb => jn_keep (e1 a b ha hb), fun b hb => ?_⟩
          rcases Nat.lt_or_ge b j with q | q
          · exact jn_keep (e2 b q)
          · have e : b = j := by omega
            subst e
            exact jn_eq L b (T i b)
      obtain ⟨L, h1, e1, e2⟩ := key2 N (Nat.le_refl _)
      refine ⟨L, h1, fun a b ha hb => ?_⟩
      rcases Nat.lt_or_ge a i with q | q
      · exact e1 a b q hb
      · have e : a = i := by omega
        subst e
        exact e2 b hb
  obtain ⟨L, h1, e1⟩ := key N (Nat.le_refl _)
  exact ⟨L, h1, fun a b ha hb => e1 a b ha hb⟩
/-! rows of labels -/
def lbl (c : Nat → Int32) (N : Nat) (L : Nat → Nat) : Prop := ∀ i, i < N → c i = nI (L i)
theorem n_if {a b : Nat} (ha : a < 2 ^ 31) (hb : b < 2 ^ 31) (c d : Nat) : (if nI a < nI b then nI c else nI d) = nI (if a < b then c else d) := by
  by_cases h : a < b
  · rw [if_pos h, if_pos ((nI_ltI ha hb).mpr h)]
  · rw [if_neg h, if_neg (fun q => h ((nI_ltI ha hb).mp q))]
theorem s_splitC {N : Nat} {n : Int32} {ld : Nat → Int32} {K : Int32 → (Nat → Int32) → Prop} (hN : N ≤ 8) (h : K (nI N) (fa_fill (fun i => nI i) ld N)) : pX1_split n ld (nI N) K := by
  refine lpW2_for N (fun i a f => a = nI i ∧ f = fa_fill (fun i => nI i) ld i) 0 (Nat.zero_le _) ⟨nI_0.symm, (fa_fill_0 _ _).symm⟩ ?_
  rintro i hi a f ⟨rfl, rfl⟩ R hR
  refine pk_le N i (fun hle => ?_) (fun hlt => ?_)
  · have e : i = N := by omega
    subst e
    exact h
  · refine ⟨vp_in_nI (by omega) (by decide), hR hlt _ _ ⟨nI_1 i, ?_⟩⟩
    rw [nI_clamp (by omega)]
    exact fa_fill_succ (fun i => nI i) ld i
theorem s_joinC {N x y : Nat} {ld : Nat → Int32} {L : Nat → Nat} {K : Int32 → (Nat → Int32) → Prop} (hN : N ≤ 8) (hx : x < N) (hy : y < N) (hl : lbl ld N L) (hL : ∀ b, b < N → L b ≤ b)
    (h1 : L x ≠ L y → ∀ ld', lbl ld' N (jn L x y) → K 1 ld') (h0 : L x = L y → ∀ ld', lbl ld' N (jn L x y) → K 0 ld') : pX1_join (nI N) ld (nI x) (nI y) K := by
  have bx := hL x hx
  have byy := hL y hy
  refine ⟨vp_in_nI (by omega) (by decide), vp_in_nI (by omega) (by decide), vp_in_nI (by omega) (by decide), vp_in_nI (by omega) (by decide), ?_⟩
  rw [nI_clamp (by omega), nI_clamp (by omega), hl x hx, hl y hy, n_if (by omega) (by omega), n_if (by omega) (by omega)]
  refine lpW2_for N (fun i a f => a = nI i ∧ ∀ c, c < N → f c = nI (if c < i then jn L x y c else L c)) 0 (Nat.zero_le _) ⟨nI_0.symm, fun c hc => by rw [if_neg (Nat.not_lt_zero _)]; exact hl c hc⟩ ?_
  rintro i hi a f ⟨rfl, hf⟩ R hR
  refine pk_le N i (fun hle => ?_) (fun hlt => ?_)
  · have e : i = N := by omega
    subst e
    have hl' : lbl f i (jn L x y) := fun c hc => by rw [hf c hc, if_pos hc]
    have hb1 : lo2 L x y < 8 := by rcases lohi L x y with ⟨p, q, -⟩ | ⟨p, q, -⟩ <;> omega
    have hb2 : hi2 L x y < 8 := by rcases lohi L x y with ⟨p, q, -⟩ | ⟨p, q, -⟩ <;> omega
    refine pk_eq (lo2 L x y) (hi2 L x y) (fun e => z0 (h0 ?_ f hl')) (fun e => z1 (h1 ?_ f hl'))
    · rcases lohi L x y with ⟨p, q, -⟩ | ⟨p, q, -⟩ <;> omega
    · rcases lohi L x y with ⟨p, q, -⟩ | ⟨p, q, -⟩ <;> omega
  · have bi := hL i hlt
    have hb2 : hi2 L x y < 8 := by rcases lohi L x y with ⟨p, q, -⟩ | ⟨p, q, -⟩ <;> omega
    refine ⟨vp_in_nI (by omega) (by decide), ?_⟩
    rw [nI_clamp (by omega), hf i hlt, if_neg (Nat.lt_irrefl _)]
    refine ⟨fun hne => ?_, fun heq => ?_⟩
    · refine hR hlt _ _ ⟨nI_1 i, fun c hc => ?_⟩
      rw [hf c hc]
      by_cases e : c = i
      · subst e
        have e2 : ¬ L c = hi2 L x y := fun z => hne (by rw [z]; rfl)
        rw [if_neg (Nat.lt_irrefl _), if_pos (Nat.lt_succ_self _)]
        unfold jn
        rw [if_neg e2]
      · by_cases e2 : c < i
        · rw [if_pos e2, if_pos (by omega)]
        · rw [if_neg e2, if_neg (by omega)]
    · refine ⟨vp_in_nI (by omega) (by decide), hR hlt _ _ ⟨nI_1 i, fun c hc => ?_⟩⟩
      by_cases e : c = i
      · subst e
        have e2 : L c = hi2 L x y := nI_inj (by omega) (by omega) heq
        rw [pk_us, if_pos (Nat.lt_succ_self _)]
        unfold jn
        rw [if_pos e2]
        rfl
      · rw [pk_un e, hf c hc]
        by_cases e2 : c < i
        · rw [if_pos e2, if_pos (by omega)]
        · rw [if_neg e2, if_neg (by omega)]
theorem rk_s (L : Nat → Nat) (n : Nat) : rk L (n + 1) = rk L n + if L n = n then 1 else 0 := by
  unfold rk
  rw [fb_ct_succ]
  by_cases h : L n = n <;> simp [h]
theorem rk_le (L : Nat → Nat) (n : Nat) : rk L n ≤ n := fb_ct_le _ n
theorem s_number {N : Nat} {ld nm : Nat → Int32} {L : Nat → Nat} {K : Int32 → (Nat → Int32) → Prop} (hN : N ≤ 8) (hl : lbl ld N L) (hL : idem N L) (h : ∀ nm', lbl nm' N (fun c => rk L (L c)) → K (nI (rk L N)) nm') : pX1_number (nI N) ld nm K := by
  refine lpW3_for N (fun i a b f => a = nI (rk L i) ∧ b = nI i ∧ lbl f i (fun c => rk L (L c))) 0 (Nat.zero_le _) ⟨nI_0.symm, nI_0.symm, fun c hc => absurd hc (Nat.not_lt_zero _)⟩ ?_
  rintro i hi a b f ⟨rfl, rfl, hf⟩ R hR
  refine pk_le N i (fun hle => ?_) (fun hlt => ?_)
  · have e : i = N := by omega
    subst e
    exact h f hf
  · obtain ⟨b1, b2⟩ := hL i hlt
    have hbi : nI i = nI i := rfl
    refine ⟨vp_in_nI (by omega) (by decide), ?_⟩
    rw [nI_clamp (by omega), hl i hlt]
    refine ⟨fun hne => ?_, fun heq => ?_⟩
    · have e : ¬ L i = i := fun z => hne (by rw [z])
      refine ⟨vp_in_nI (by omega) (by decide), vp_in_nI (by omega) (by decide), vp_in_nI (by omega) (by decide), hR hlt _ _ _ ⟨?_, nI_1 i, fun c hc => ?_⟩⟩
      · rw [rk_s, if_neg e]
        rfl
      · have e9 : f (L i) = nI (rk L (L i)) := by
          rw [hf (L i) (by omega)]
          show nI (rk L (L (L i))) = _
          rw [b2]
        rw [nI_clamp (by omega), e9]
        by_cases e3 : c = i
        · subst e3
          rw [pk_us]
        · rw [pk_un e3]
          exact hf c (by omega)
    · have e : L i = i := nI_inj (by omega) (by omega) heq
      refine ⟨vp_in_nI (by omega) (by decide), hR hlt _ _ _ ⟨?_, nI_1 i, fun c hc => ?_⟩⟩
      · rw [rk_s, if_pos e]
        exact nI_1 _
      · by_cases e3 : c = i
        · subst e3
          rw [pk_us]
          show nI (rk L c) = nI (rk L (L c))
          rw [e]
        · rw [pk_un e3]
          exact hf c (by omega)
theorem s_numberedM {N : Nat} {o h0 : Nat → Int32} {L : Nat → Nat} {K : Int32 → (Nat → Int32) → (Nat → Int32) → Prop} (hN : N ≤ 8) (hl : lbl o N L) (hL : idem N L) (h : ∀ h' o', lbl o' N (fun c => rk L (L c)) → K (nI (rk L N)) h' o') : pX11_numbered 8 (nI N) h0 o K := by
  refine lpW3_for N (fun i a b f => a = nI (rk L i) ∧ b = nI i ∧ ∀ c, c < i → L c = c → f c = nI (rk L c)) 0 (Nat.zero_le _) ⟨nI_0.symm, nI_0.symm, fun c hc => absurd hc (Nat.not_lt_zero _)⟩ ?_
  rintro i hi a b f ⟨rfl, rfl, hf⟩ R hR
  refine pk_le N i (fun hle => ?_) (fun hlt => ?_)
  · have e : i = N := by omega
    subst e
    refine lpW2_for i (fun j b g => b = nI j ∧ ∀ c, c < i → g c = nI (if c < j then rk L (L c) else L c)) 0 (Nat.zero_le _) ⟨nI_0.symm, fun c hc => by rw [if_neg (Nat.not_lt_zero _)]; exact hl c hc⟩ ?_
    rintro j hj b g ⟨rfl, hg⟩ R2 hR2
    refine pk_le i j (fun hle2 => ?_) (fun hlt2 => ?_)
    · have e : j = i := by omega
      subst e
      exact h f g (fun c hc => by rw [hg c hc, if_pos hc])
    · obtain ⟨b1, b2⟩ := hL j hlt2
      rw [nI_clamp (by omega), hg j hlt2, if_neg (Nat.lt_irrefl _), nI_clamp (by omega), hf (L j) (by omega) b2]
      refine ⟨vp_in_nI (by omega) (by decide), vp_in_nI (by omega) (by decide), vp_in_nI (by omega) (by decide), hR2 hlt2 _ _ ⟨nI_1 j, fun c hc => ?_⟩⟩
      by_cases e3 : c = j
      · subst e3
        rw [pk_us, if_pos (Nat.lt_succ_self _)]
      · rw [pk_un e3, hg c hc]
        by_cases e2 : c < j
        · rw [if_pos e2, if_pos (by omega)]
        · rw [if_neg e2, if_neg (by omega)]
  · have b1 := (hL i hlt).1
    refine ⟨vp_in_nI (by omega) (by decide), ?_⟩
    rw [nI_clamp (by omega), hl i hlt]
    refine ⟨fun hne => ?_, fun heq => ?_⟩
    · have e : ¬ L i = i := fun z => hne (by rw [z])
      refine hR hlt _ _ _ ⟨by rw [rk_s, if_neg e]; rfl, nI_1 i, fun c hc hcc => ?_⟩
      have e3 : c ≠ i := fun z => e (z ▸ hcc)
      exact hf c (by omega) hcc
    · have e : L i = i := nI_inj (by omega) (by omega) heq
      refine ⟨vp_in_nI (by omega) (by decide), hR hlt _ _ _ ⟨by rw [rk_s, if_pos e]; exact nI_1 _, nI_1 i, fun c hc hcc => ?_⟩⟩
      by_cases e3 : c = i
      · subst e3
        rw [pk_us]
      · rw [pk_un e3]
        exact hf c (by omega) hcc
theorem lbl_cong {c : Nat → Int32} {N : Nat} {L M : Nat → Nat} (h : lbl c N L) (e : ∀ b, b < N → L b = M b) : lbl c N M := fun i hi => by rw [h i hi, e i hi]
theorem s_orbX {N : Nat} {T : Nat → Nat → Nat} {M : Nat → Nat} {c : Nat → Int32} {n : Int32} {ld nm : Nat → Int32} {K : Int32 → Int32 → (Nat → Int32) → (Nat → Int32) → Prop} (hN : N ≤ 8) (ht : tab c N T) (hM : lab N (orbC T N) M)
    (h : ∀ ld' nm', lbl nm' N (fun c => rk M (M c)) → K (nI (rk M N)) (nI N) ld' nm') : pX10_splitIntoOrbits n ld nm (nI N) c K := by
  refine s_splitC hN ?_
  refine lpW2_for N (fun i a f => a = nI i ∧ ∃ L, lbl f N L ∧ labOk N (orbC T N) L ∧ ∀ a b, a < i → b < N → L b = L (T a b)) 0 (Nat.zero_le _) ⟨nI_0.symm, fun b => b, fun i hi => fa_fill_in hi, labOk_id N _, fun a b ha => absurd ha (Nat.not_lt_zero _)⟩ ?_
  rintro i hi a f ⟨rfl, L0, hl0, hL0, e0⟩ R hR
  refine pk_le N i (fun hle => ?_) (fun hlt => ?_)
  · have e : i = N := by omega
    subst e
    have hLM : ∀ b, b < i → L0 b = M b := lab_one ⟨hL0, fun a b ha hb => e0 a b ha hb⟩ hM
    exact s_number hN (lbl_cong hl0 hLM) (lab_idem' hM) (fun nm' hnm => h _ nm' hnm)
  · refine lpW2_for N (fun j b f => b = nI j ∧ ∃ L, lbl f N L ∧ labOk N (orbC T N) L ∧ (∀ a b, a < i → b < N → L b = L (T a b)) ∧ ∀ b, b < j → L b = L (T i b)) 0 (Nat.zero_le _) ⟨nI_0.symm, L0, hl0, hL0, e0, fun b hb => absurd hb (Nat.not_lt_zero _)⟩ ?_
    rintro j hj b f ⟨rfl, L, hl, hL, e1, e2⟩ R2 hR2
    refine pk_le N j (fun hle2 => ?_) (fun hlt2 => ?_)
    · have e : j = N := by omega
      subst e
      refine hR hlt _ _ ⟨nI_1 i, L, hl, hL, fun a b ha hb => ?_⟩
      rcases Nat.lt_or_ge a i with q | q
      · exact e1 a b q hb
      · have e : a = i := by omega
        subst e
        exact e2 b hb
    · have bt := (ht i j hlt hlt2).2
      have fin : ∀ ld', lbl ld' N (jn L j (T i j)) → R2 (nI j + 1) ld' := fun ld' hl' => by
        refine hR2 hlt2 _ _ ⟨nI_1 j, jn L j (T i j), hl', jn_ok hL hlt2 bt (fun f hf => hf i j hlt hlt2), fun a b ha hb => jn_keep (e1 a b ha hb), fun b hb => ?_⟩
        rcases Nat.lt_or_ge b j with q | q
        · exact jn_keep (e2 b q)
        · have e : b = j := by omega
          subst e
          exact jn_eq L b (T i b)
      exact t_turned ht hN hlt hlt2 (s_joinC hN hlt2 bt hl hL.1 (fun _ ld' hl' => fin ld' hl') (fun _ ld' hl' => fin ld' hl'))
/-! the model's rounds -/
def okM (N : Nat) (M L : Nat → Nat) : Prop := ∀ b, b < N → L b ≤ b ∧ M (L b) = M b
theorem okM_ge {N : Nat} {M L : Nat → Nat} (hM : idem N M) (h : okM N M L) {b : Nat} (hb : b < N) : M b ≤ L b := by
  obtain ⟨h1, h2⟩ := h b hb
  rw [← h2]
  exact (hM _ (by omega)).1
def st2 (L : Nat → Nat) (x y c : Nat) : Nat := if c = y then lo2 L x y else if c = x then lo2 L x y else L c
theorem st2_ok {N : Nat} {M L : Nat → Nat} {x y : Nat} (h : okM N M L) (hx : x < N) (hy : y < N) (e : M x = M y) : okM N M (st2 L x y) := by
  intro b hb
  obtain ⟨x1, x2⟩ := h x hx
  obtain ⟨y1, y2⟩ := h y hy
  have key : (lo2 L x y ≤ x ∧ lo2 L x y ≤ y) ∧ M (lo2 L x y) = M x := by
    rcases lohi L x y with ⟨p, q, r⟩ | ⟨p, q, r⟩
    · exact ⟨by omega, by rw [p, x2]⟩
    · exact ⟨by omega, by rw [p, y2, e]⟩
  unfold st2
  split
  · rename_i z
    subst z
    exact ⟨key.1.2, by rw [key.2, e]⟩
  · split
    · rename_i z
      subst z
      exact ⟨key.1.1, key.2⟩
    · exact h b hb
theorem st2_good {N : Nat} {M L : Nat → Nat} {x y : Nat} (hM : idem N M) (h : okM N M L) (hx : x < N) (hy : y < N) (e : M x = M y) (hg : L x = M x ∨ L y = M y) : lo2 L x y = M x := by
  have g1 := okM_ge hM h hx
  have g2 := okM_ge hM h hy
  rcases lohi L x y with ⟨p, q, r⟩ | ⟨p, q, r⟩ <;> omega
theorem st2_mono {N : Nat} {M L : Nat → Nat} {x y : Nat} (hM : idem N M) (h : okM N M L) (hx : x < N) (hy : y < N) (e : M x = M y) {b : Nat} (hg : L b = M b) : st2 L x y b = M b := by
  unfold st2
  split
  · rename_i z
    subst z
    rw [st2_good hM h hx hy e (Or.inr hg), e]
  · split
    · rename_i z
      subst z
      exact st2_good hM h hx hy e (Or.inl hg)
    · exact hg
theorem rnd_up {N r : Nat} {T : Nat → Nat → Nat} {M L0 L : Nat → Nat} (hT : ∀ a b, a < N → b < N → T a b < N) (hM : lab N (orbC T N) M) (h0 : okM N M L0) (hmono : ∀ b, b < N → L0 b = M b → L b = M b)
    (hdone : ∀ a b, a < N → b < N → (L0 b = M b ∨ L0 (T a b) = M (T a b)) → L b = M b ∧ L (T a b) = M (T a b)) (hr : r ≤ fb_ct (fun b => L0 b == M b) N ∨ ∀ b, b < N → L0 b = M b) :
    r + 1 ≤ fb_ct (fun b => L b == M b) N ∨ ∀ b, b < N → L b = M b := by
  by_cases hall : ∀ b, b < N → L0 b = M b
  · exact Or.inr (fun b hb => hmono b hb (hall b hb))
  · have hr' : r ≤ fb_ct (fun b => L0 b == M b) N := hr.resolve_right hall
    by_cases hed : ∀ a b, a < N → b < N → (L0 b = M b ↔ L0 (T a b) = M (T a b))
    · exfalso
      apply hall
      intro b hb
      have hf : orbC T N (fun b => if L0 b = M b then 0 else 1) := by
        intro x y hx hy
        have q := hed x y hx hy
        by_cases z : L0 y = M y
        · simp only [if_pos z, if_pos (q.mp z)]
        · simp only [if_neg z, if_neg (fun w => z (q.mpr w))]
      have e := hM.1.2 _ hf b hb
      have hMb : M b < N := Nat.lt_of_le_of_lt (hM.1.1 b hb) hb
      have g : L0 (M b) = M (M b) := by
        have g1 := okM_ge (lab_idem' hM) h0 hMb
        have g2 := (h0 (M b) hMb).1
        rw [lab_idem hM b hb] at g1 ⊢
        omega
      simp only [if_pos g] at e
      by_cases z : L0 b = M b
      · exact z
      · rw [if_neg z] at e
        cases e
    · left
      have hz : ∃ z, z < N ∧ L0 z ≠ M z ∧ L z = M z := by
        refine Classical.byContradiction (fun hno => hed (fun a b ha hb => ⟨fun q => ?_, fun q => ?_⟩))
        · refine Classical.byContradiction (fun q2 => hno ⟨T a b, hT a b ha hb, q2, (hdone a b ha hb (Or.inl q)).2⟩)
        · refine Classical.byContradiction (fun q2 => hno ⟨b, hb, q2, (hdone a b ha hb (Or.inr q)).1⟩)
      obtain ⟨z, hz1, hz2, hz3⟩ := hz
      have hu := fb_ct_upd (fun b => L0 b == M b) true hz1
      have hs : fb_ct (fun k => if k = z then true else L0 k == M k) N ≤ fb_ct (fun b => L b == M b) N := by
        refine fb_ct_sub (fun k hk hp => ?_)
        by_cases e : k = z
        · subst e
          simp [hz3]
        · rw [if_neg e] at hp
          have : L0 k = M k := by simpa using hp
          simp [hmono k hk this]
      have hzf : (L0 z == M z) = false := by simp [hz2]
      simp only [hzf, if_true, Bool.false_eq_true, if_false] at hu
      omega
theorem s_orbM {N : Nat} {T : Nat → Nat → Nat} {M : Nat → Nat} {c h0 o0 : Nat → Int32} {K : Int32 → (Nat → Int32) → (Nat → Int32) → Prop} (hN : N ≤ 8) (ht : tab c N T) (hM : lab N (orbC T N) M)
    (h : ∀ h' o', lbl o' N (fun c => rk M (M c)) → K (nI (rk M N)) h' o') : pX11_findsOrbits (nI N) h0 o0 c K := by
  have hI := lab_idem' hM
  refine lpW2_for N (fun i a f => a = nI i ∧ lbl f i (fun b => b)) 0 (Nat.zero_le _) ⟨nI_0.symm, fun b hb => absurd hb (Nat.not_lt_zero _)⟩ ?_
  rintro i hi a f ⟨rfl, hf⟩ R hR
  refine pk_le N i (fun hle => ?_) (fun hlt => ?_)
  · have e : i = N := by omega
    subst e
    refine lpW2_for i (fun r a f => a = nI r ∧ ∃ L, lbl f i L ∧ okM i M L ∧ (r ≤ fb_ct (fun b => L b == M b) i ∨ ∀ b, b < i → L b = M b)) 0 (Nat.zero_le _) ⟨nI_0.symm, fun b => b, hf, fun b hb => ⟨Nat.le_refl _, rfl⟩, Or.inl (Nat.zero_le _)⟩ ?_
    rintro r hr a f ⟨rfl, L0, hl0, ok0, g0⟩ R1 hR1
    refine pk_le i r (fun hle1 => ?_) (fun hlt1 => ?_)
    · have e : r = i := by omega
      subst e
      have hall : ∀ b, b < r → L0 b = M b := by
        rcases g0 with g | g
        · have := fb_ct_all.mp (Nat.le_antisymm (fb_ct_le _ _) g)
          exact fun b hb => by simpa using this b hb
        · exact g
      exact s_numberedM hN (lbl_cong hl0 hall) hI (fun h' o' ho => h h' o' ho)
    · refine lpW2_for i (fun p a f => a = nI p ∧ ∃ L, lbl f i L ∧ okM i M L ∧ (∀ b, b < i → L0 b = M b → L b = M b) ∧ ∀ a b, a < p → b < i → (L0 b = M b ∨ L0 (T a b) = M (T a b)) → L b = M b ∧ L (T a b) = M (T a b)) 0 (Nat.zero_le _) ⟨nI_0.symm, L0, hl0, ok0, fun _ _ q => q, fun a b ha => absurd ha (Nat.not_lt_zero _)⟩ ?_
      rintro p hp a f ⟨rfl, L1, hl1, ok1, m1, d1⟩ R2 hR2
      refine pk_le i p (fun hle2 => ?_) (fun hlt2 => ?_)
      · have e : p = i := by omega
        subst e
        exact hR1 hlt1 _ _ ⟨nI_1 r, L1, hl1, ok1, rnd_up (fun a b ha hb => (ht a b ha hb).2) hM ok0 m1 d1 g0⟩
      · refine lpW2_for i (fun q a f => a = nI q ∧ ∃ L, lbl f i L ∧ okM i M L ∧ (∀ b, b < i → L0 b = M b → L b = M b) ∧ (∀ a b, a < p → b < i → (L0 b = M b ∨ L0 (T a b) = M (T a b)) → L b = M b ∧ L (T a b) = M (T a b)) ∧ ∀ b, b < q → (L0 b = M b ∨ L0 (T p b) = M (T p b)) → L b = M b ∧ L (T p b) = M (T p b)) 0 (Nat.zero_le _) ⟨nI_0.symm, L1, hl1, ok1, m1, d1, fun b hb => absurd hb (Nat.not_lt_zero _)⟩ ?_
        rintro q hq a f ⟨rfl, L2, hl2, ok2, m2, d2, d3⟩ R3 hR3
        refine pk_le i q (fun hle3 => ?_) (fun hlt3 => ?_)
        · have e : q = i := by omega
          subst e
          refine hR2 hlt2 _ _ ⟨nI_1 p, L2, hl2, ok2, m2, fun a b ha hb => ?_⟩
          rcases Nat.lt_or_ge a p with z | z
          · exact d2 a b z hb
          · have e : a = p := by omega
            subst e
            exact d3 b hb
        · obtain ⟨et, bt⟩ := ht p q hlt2 hlt3
          have bq := (ok2 q hlt3).1
          have bq2 := (ok2 _ bt).1
          refine ⟨vp_in_nI (by omega) (by decide), t_by ht hN hlt2 hlt3 ⟨vp_in_nI (by omega) (by decide), vp_in_nI (by omega) (by decide), t_by ht hN hlt2 hlt3 ⟨vp_in_nI (by omega) (by decide), ?_⟩⟩⟩
          rw [nI_clamp (by omega), nI_clamp (by omega), hl2 q hlt3, hl2 _ bt, n_if (by omega) (by omega)]
          have eM : M q = M (T p q) := hM.2 p q hlt2 hlt3
          refine hR3 hlt3 _ _ ⟨nI_1 q, st2 L2 q (T p q), ?_, st2_ok ok2 hlt3 bt eM, fun b hb g => st2_mono hI ok2 hlt3 bt eM (m2 b hb g), fun a b ha hb g => ?_, fun b hb g => ?_⟩
          · intro k hk
            unfold st2
            by_cases k1 : k = T p q
            · rw [if_pos k1, k1, pk_us]
              rfl
            · rw [if_neg k1, pk_un k1]
              by_cases k2 : k = q
              · rw [if_pos k2, k2, pk_us]
                rfl
              · rw [if_neg k2, pk_un k2]
                exact hl2 k hk
          · exact ⟨st2_mono hI ok2 hlt3 bt eM (d2 a b ha hb g).1, st2_mono hI ok2 hlt3 bt eM (d2 a b ha hb g).2⟩
          · rcases Nat.lt_or_ge b q with z | z
            · exact ⟨st2_mono hI ok2 hlt3 bt eM (d3 b z g).1, st2_mono hI ok2 hlt3 bt eM (d3 b z g).2⟩
            · have e : b = q := by omega
              subst e
              have g' : L2 b = M b ∨ L2 (T p b) = M (T p b) := g.imp (fun w => m2 b hlt3 w) (fun w => m2 _ bt w)
              have e5 := st2_good hI ok2 hlt3 bt eM g'
              refine ⟨?_, ?_⟩
              · unfold st2
                by_cases k1 : b = T p b
                · rw [if_pos k1, e5]
                · rw [if_neg k1, if_pos rfl, e5]
              · unfold st2
                rw [if_pos rfl, e5, eM]
  · refine ⟨vp_in_nI (by omega) (by decide), hR hlt _ _ ⟨nI_1 i, fun k hk => ?_⟩⟩
    rw [nI_clamp (by omega)]
    by_cases e : k = i
    · rw [e, pk_us]
    · rw [pk_un e]
      exact hf k (by omega)
theorem op_orbits {tc cn : Int32} {cc tt : Nat → Int32} {kn : Int32} {kl km : Nat → Int32} {thr mn mr : Int32} {mh mo mrow mt : Nat → Int32} (h : RelT cn cc mn mt) (hr : RelR tc tt mr mrow) :
    pX10_orbits tc kn kl km cn cc tt (fun r a _ _ _ b => pX11_orbits thr mn mr mh mo mrow mt (fun r' _ a' _ _ b' => r = r' ∧ RelR a b a' b')) := by
  obtain ⟨N, T, h1, h8, rfl, rfl, hx, hm⟩ := h
  refine s_isRack hx h8 (fun hk => y1' ?_) (fun hk => y0' (s_isRackM hm h8 (fun q => absurd q hk) (fun _ => y0' ⟨rfl, hr⟩)))
  obtain ⟨M, hM⟩ := orb_ex (N := N) (fun a b ha hb => (hx a b ha hb).2)
  refine s_orbX h8 hx hM (fun ld nm hnm => ?_)
  refine lpW3_for N (fun i a b f => a = nI i ∧ b = nI i ∧ lbl f i (fun c => rk M (M c))) 0 (Nat.zero_le _) ⟨nI_0.symm, nI_0.symm, fun c hc => absurd hc (Nat.not_lt_zero _)⟩ ?_
  rintro i hi a b f ⟨rfl, rfl, hf⟩ R hR
  refine pk_le N i (fun hle => ?_) (fun hlt => ?_)
  · have e : i = N := by omega
    subst e
    refine s_isRackM hm h8 (fun _ => y1' ?_) (fun q => absurd hk q)
    refine s_orbM h8 hm hM (fun h' o' ho => ?_)
    refine lpW2_for i (fun j b g => b = nI j ∧ lbl g j (fun c => rk M (M c))) 0 (Nat.zero_le _) ⟨nI_0.symm, fun c hc => absurd hc (Nat.not_lt_zero _)⟩ ?_
    rintro j hj b g ⟨rfl, hg⟩ R2 hR2
    refine pk_le i j (fun hle2 => ?_) (fun hlt2 => ?_)
    · have e : j = i := by omega
      subst e
      exact ⟨rfl, j, h8, rfl, rfl, fun c hc => by rw [hf c hc, hg c hc]⟩
    · refine ⟨vp_in_nI (by omega) (by decide), vp_in_nI (by omega) (by decide), hR2 hlt2 _ _ ⟨nI_1 j, fun k hk2 => ?_⟩⟩
      rw [nI_clamp (by omega)]
      by_cases e : k = j
      · rw [e, pk_us]
        exact ho j hlt2
      · rw [pk_un e]
        exact hg k (by omega)
  · refine ⟨vp_in_nI (by omega) (by decide), ?_⟩
    rw [nI_clamp (by omega), hnm i hlt]
    refine s_tell (by omega) (hR hlt _ _ _ ⟨nI_1 i, rfl, fun k hk2 => ?_⟩)
    by_cases e : k = i
    · rw [e, pk_us]
    · rw [pk_un e]
      exact hf k (by omega)
