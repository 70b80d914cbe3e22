/-! Questions that hold for all things up to n, as a boolean. -/
def al (p : Nat → Bool) : Nat → Bool
  | 0 => true
  | n + 1 => al p n && p n
def bI (b : Bool) : Int32 := if b then 1 else 0
theorem al_s (p : Nat → Bool) (n : Nat) : al p (n + 1) = (al p n && p n) := rfl
theorem al_no {p : Nat → Bool} {i : Nat} (h : p i = false) : ∀ {n : Nat}, i < n → al p n = false
  | 0, hn => absurd hn (Nat.not_lt_zero _)
  | n + 1, hn => by
    rw [al_s]
    rcases Nat.lt_or_ge i n with q | q
    · rw [al_no h q]
      rfl
    · have e : i = n := by omega
      subst e
      rw [h, Bool.and_false]
theorem al_yes {p : Nat → Bool} : ∀ {n : Nat}, (∀ i, i < n → p i = true) → al p n = true
  | 0, _ => rfl
  | n + 1, h => by rw [al_s, al_yes (fun i hi => h i (by omega)), h n (by omega)]; rfl
theorem al_cong {p q : Nat → Bool} : ∀ {n : Nat}, (∀ i, i < n → p i = q i) → al p n = al q n
  | 0, _ => rfl
  | n + 1, h => by rw [al_s, al_s, al_cong (fun i hi => h i (by omega)), h n (by omega)]
theorem al_iff {p : Nat → Bool} {n : Nat} : al p n = true ↔ ∀ i, i < n → p i = true := by
  refine ⟨fun h i hi => ?_, al_yes⟩
  cases e : p i with
  | true => rfl
  | false => rw [al_no e hi] at h; cases h
theorem bI_zb (b : Bool) : zb (bI b) := by
  cases b
  · exact Or.inl rfl
  · exact Or.inr rfl
theorem bI_c {A B : Prop} (b : Bool) (f : b = false → A) (g : b = true → B) : (bI b = 0 → A) ∧ (¬ bI b = 0 → B) := by
  cases b
  · exact ⟨fun _ => f rfl, fun q => absurd rfl q⟩
  · exact ⟨fun q => absurd q (by decide), fun _ => g rfl⟩
theorem bI_c' {A B : Prop} (b : Bool) (f : b = false → A) (g : b = true → B) : (¬ bI b = 0 → B) ∧ (bI b = 0 → A) := ⟨(bI_c b f g).2, (bI_c b f g).1⟩
theorem pk_ne {A B : Prop} (a b : Nat) (ha : a < 2 ^ 31) (hb : b < 2 ^ 31) (f : a = b → A) (g : a ≠ b → B) : (¬ nI a = nI b → B) ∧ (nI a = nI b → A) :=
  ⟨fun q => g (fun z => q (by rw [z])), fun q => f (nI_inj ha hb q)⟩
theorem s_isIdem {c : Nat → Int32} {N : Nat} {T : Nat → Nat → Nat} {K : Int32 → Prop} (ht : tab c N T) (hN : N ≤ 8) (h : K (bI (al (fun a => T a a == a) N))) : pX7_isIdempotent (nI N) c K := by
  refine lpW1_for N (fun i x => x = nI i ∧ al (fun a => T a a == a) i = true) 0 (Nat.zero_le _) ⟨nI_0.symm, rfl⟩ ?_
  rintro i hi x ⟨rfl, hI⟩ R hR
  refine pk_le N i (fun hle => ?_) (fun hlt => ?_)
  · have e : i = N := by omega
    subst e
    rw [hI] at h
    exact z1 h
  · have b := (ht i i hlt hlt).2
    refine t_turned ht hN hlt hlt ?_
    refine pk_eq (T i i) i (fun e => hR hlt _ ⟨nI_1 i, ?_⟩) (fun e => z0 ?_)
    · rw [al_s, hI]
      simp [e]
    · rw [al_no (p := fun a => T a a == a) (i := i) (by simp [e]) hlt] at h
      exact h
theorem s_isInv {c : Nat → Int32} {N : Nat} {T : Nat → Nat → Nat} {K : Int32 → Prop} (ht : tab c N T) (hN : N ≤ 8) (h : K (bI (al (fun a => al (fun b => T a (T a b) == b) N) N))) : pX7_isInvolutory (nI N) c K := by
  refine lpW1_for N (fun i x => x = nI i ∧ al (fun a => al (fun b => T a (T a b) == b) N) i = true) 0 (Nat.zero_le _) ⟨nI_0.symm, rfl⟩ ?_
  rintro i hi x ⟨rfl, hI⟩ R hR
  refine pk_le N i (fun hle => ?_) (fun hlt => ?_)
  · have e : i = N := by omega
    subst e
    rw [hI] at h
    exact z1 h
  · refine lpW1_for N (fun j x => x = nI j ∧ al (fun b => T i (T i b) == b) j = true) 0 (Nat.zero_le _) ⟨nI_0.symm, rfl⟩ ?_
    rintro j hj x ⟨rfl, hJ⟩ R2 hR2
    refine pk_le N j (fun hle => ?_) (fun hlt2 => ?_)
    · have e : j = N := by omega
      subst e
      exact hR hlt _ ⟨nI_1 i, by rw [al_s, hI, hJ]; rfl⟩
    · have b1 := (ht i j hlt hlt2).2
      have b2 := (ht i _ hlt b1).2
      refine t_turned ht hN hlt hlt2 (t_turned ht hN hlt b1 ?_)
      refine pk_eq (T i (T i j)) j (fun e => hR2 hlt2 _ ⟨nI_1 j, ?_⟩) (fun e => z0 ?_)
      · rw [al_s, hJ]
        simp [e]
      · have e1 : al (fun b => T i (T i b) == b) N = false := al_no (i := j) (by simp [e]) hlt2
        rw [al_no (p := fun a => al (fun b => T a (T a b) == b) N) (i := i) e1 hlt] at h
        exact h
def sameR (T : Nat → Nat → Nat) (N a o : Nat) : Bool := al (fun b => T a b == T o b) N
theorem s_alike {c : Nat → Int32} {N a o : Nat} {T : Nat → Nat → Nat} {K : Int32 → Prop} (ht : tab c N T) (hN : N ≤ 8) (ha : a < N) (ho : o < N) (h : K (bI (sameR T N a o))) : pX7_rowsAreAlike (nI N) c (nI a) (nI o) K := by
  refine lpW1_for N (fun i x => x = nI i ∧ al (fun b => T a b == T o b) i = true) 0 (Nat.zero_le _) ⟨nI_0.symm, rfl⟩ ?_
  rintro i hi x ⟨rfl, hI⟩ R hR
  unfold sameR at h
  refine pk_le N i (fun hle => ?_) (fun hlt => ?_)
  · have e : i = N := by omega
    subst e
    rw [hI] at h
    exact z1 h
  · have b1 := (ht a i ha hlt).2
    have b2 := (ht o i ho hlt).2
    refine t_turned ht hN ha hlt (t_turned ht hN ho hlt ?_)
    refine pk_eq (T a i) (T o i) (fun e => hR hlt _ ⟨nI_1 i, ?_⟩) (fun e => z0 ?_)
    · rw [al_s, hI]
      simp [e]
    · rw [al_no (p := fun b => T a b == T o b) (i := i) (by simp [e]) hlt] at h
      exact h
theorem s_differ {c : Nat → Int32} {N : Nat} {T : Nat → Nat → Nat} {K : Int32 → Prop} (ht : tab c N T) (hN : N ≤ 8) (h : K (bI (al (fun a => al (fun b => decide (b ≤ a) || !sameR T N a b) N) N))) : pX7_rowsDiffer (nI N) c K := by
  refine lpW1_for N (fun i x => x = nI i ∧ al (fun a => al (fun b => decide (b ≤ a) || !sameR T N a b) N) i = true) 0 (Nat.zero_le _) ⟨nI_0.symm, rfl⟩ ?_
  rintro i hi x ⟨rfl, hI⟩ R hR
  refine pk_le N i (fun hle => ?_) (fun hlt => ?_)
  · have e : i = N := by omega
    subst e
    rw [hI] at h
    exact z1 h
  · refine lpW1_for N (fun j x => x = nI j ∧ i < j ∧ al (fun b => decide (b ≤ i) || !sameR T N i b) j = true) (i + 1) hlt ⟨nI_1 i, Nat.lt_succ_self _, al_yes (fun k hk => by simp; left; omega)⟩ ?_
    rintro j hj x ⟨rfl, hij, hJ⟩ R2 hR2
    refine pk_le N j (fun hle => ?_) (fun hlt2 => ?_)
    · have e : j = N := by omega
      subst e
      exact hR hlt _ ⟨nI_1 i, by rw [al_s, hI, hJ]; rfl⟩
    · refine s_alike ht hN hlt hlt2 (bI_c _ (fun e => hR2 hlt2 _ ⟨nI_1 j, by omega, ?_⟩) (fun e => z0 ?_))
      · rw [al_s, hJ, e]
        simp
      · have e1 : al (fun b => decide (b ≤ i) || !sameR T N i b) N = false := al_no (i := j) (by rw [e]; simp; omega) hlt2
        rw [al_no (p := fun a => al (fun b => decide (b ≤ a) || !sameR T N a b) N) (i := i) e1 hlt] at h
        exact h
theorem s_cols {c : Nat → Int32} {N : Nat} {T : Nat → Nat → Nat} {K : Int32 → Prop} (ht : tab c N T) (hN : N ≤ 8) (h : K (bI (al (fun b => msk (fun a => T a b) N == 2 ^ N - 1) N))) : pX7_columnsHaveAll (nI N) c K := by
  have h8 := p2_8 hN
  unfold pX7_columnsHaveAll
  rw [n_all (by omega)]
  refine lpW1_for N (fun i x => x = nI i ∧ al (fun b => msk (fun a => T a b) N == 2 ^ N - 1) i = true) 0 (Nat.zero_le _) ⟨nI_0.symm, rfl⟩ ?_
  rintro i hi x ⟨rfl, hI⟩ R hR
  refine pk_le N i (fun hle => ?_) (fun hlt => ?_)
  · have e : i = N := by omega
    subst e
    rw [hI] at h
    exact z1 h
  · refine lpW2_for N (fun j x3 x4 => x4 = nI j ∧ x3 = nI (msk (fun a => T a i) j)) 0 (Nat.zero_le _) ⟨nI_0.symm, nI_0.symm⟩ ?_
    rintro j hj x3 x4 ⟨rfl, rfl⟩ R2 hR2
    refine pk_le N j (fun hle => ?_) (fun hlt2 => ?_)
    · have e : j = N := by omega
      subst e
      have hm : msk (fun a => T a i) j < 2 ^ j := msk_lt (fun q hq => (ht q i hq hlt).2)
      refine pk_eq (msk (fun a => T a i) j) (2 ^ j - 1) (fun e => hR hlt _ ⟨nI_1 i, ?_⟩) (fun e => z0 ?_)
      · rw [al_s, hI]
        simp [e]
      · rw [al_no (p := fun b => msk (fun a => T a b) j == 2 ^ j - 1) (i := i) (by simp [e]) hlt] at h
        exact h
    · exact t_turned ht hN hlt2 hlt (hR2 hlt2 _ _ ⟨nI_1 j, n_msk (f := fun a => T a i) (N := N) (ht j i hlt2 hlt).2 (by omega)⟩)
def isV (T : Nat → Nat → Nat) (N : Nat) (M : Nat → Nat) (w : Nat) : Bool :=
  if w = 0 then al (fun a => T a a == a) N
  else if w = 1 then al (fun a => al (fun b => T a (T a b) == b) N) N
  else if w = 2 then rk M N == 1
  else if w = 3 then al (fun a => al (fun b => decide (b ≤ a) || !sameR T N a b) N) N
  else al (fun b => msk (fun a => T a b) N == 2 ^ N - 1) N
theorem s_holds {c : Nat → Int32} {N w : Nat} {T : Nat → Nat → Nat} {M : Nat → Nat} {kn : Int32} {kl km : Nat → Int32} {K : Int32 → Int32 → (Nat → Int32) → (Nat → Int32) → Prop} (ht : tab c N T) (hN : N ≤ 8) (hM : lab N (orbC T N) M) (hw : w ≤ 4)
    (h : ∀ a b d, K (bI (isV T N M w)) a b d) : pX10_holds kn kl km (nI N) c (nI w) K := by
  have hz := bI_zb (isV T N M w)
  have hr := rk_le M N
  refine ⟨fun e => ?_, fun e => ?_, fun e => ?_, fun e => ?_, fun e0 e1 e2 e3 => ?_⟩
  · have e' : w = 0 := nI_inj (by omega) (by omega) e
    subst e'
    exact s_isIdem ht hN ⟨bI_zb _, h _ _ _⟩
  · have e' : w = 1 := nI_inj (b := 1) (by omega) (by omega) e
    subst e'
    exact s_isInv ht hN ⟨bI_zb _, h _ _ _⟩
  · have e' : w = 2 := nI_inj (b := 2) (by omega) (by omega) e
    subst e'
    refine s_orbX hN ht hM (fun ld nm _ => pk_ne (rk M N) 1 (by omega) (by omega) (fun e => z1 ?_) (fun e => z0 ?_))
    · have q := h (nI N) ld nm
      have q2 : isV T N M 2 = true := by simp [isV, e]
      rw [q2] at q
      exact q
    · have q := h (nI N) ld nm
      have q2 : isV T N M 2 = false := by simp [isV, e]
      rw [q2] at q
      exact q
  · have e' : w = 3 := nI_inj (b := 3) (by omega) (by omega) e
    subst e'
    exact s_differ ht hN ⟨bI_zb _, h _ _ _⟩
  · have e' : w = 4 := by
      have a0 : w ≠ 0 := fun z => e0 (by rw [z]; rfl)
      have a1 : w ≠ 1 := fun z => e1 (by rw [z]; rfl)
      have a2 : w ≠ 2 := fun z => e2 (by rw [z]; rfl)
      have a3 : w ≠ 3 := fun z => e3 (by rw [z]; rfl)
      omega
    subst e'
    exact s_cols ht hN ⟨bI_zb _, h _ _ _⟩
theorem s_sameM {c : Nat → Int32} {N a o : Nat} {T : Nat → Nat → Nat} {K : Int32 → Prop} (ht : tab c N T) (hN : N ≤ 8) (ha : a < N) (ho : o < N) (h : K (bI (sameR T N a o))) : pX11_sameRows (nI N) c (nI a) (nI o) K := by
  refine lpW2_for N (fun i f x => x = nI i ∧ f = bI (al (fun b => T a b == T o b) i)) 0 (Nat.zero_le _) ⟨nI_0.symm, rfl⟩ ?_
  rintro i hi f x ⟨rfl, rfl⟩ R hR
  refine pk_le N i (fun hle => ?_) (fun hlt => ?_)
  · have e : i = N := by omega
    subst e
    exact ⟨bI_zb _, h⟩
  · have b1 := (ht a i ha hlt).2
    have b2 := (ht o i ho hlt).2
    have fin : ∀ r, r = bI (al (fun b => T a b == T o b) (i + 1)) → R r (nI i + 1) := fun r e => hR hlt _ _ ⟨nI_1 i, e⟩
    refine bI_c _ (fun e => fin 0 ?_) (fun e => t_by ht hN ha hlt (t_by ht hN ho hlt (pk_ne (T a i) (T o i) (by omega) (by omega) (fun e2 => fin 1 ?_) (fun e2 => fin 0 ?_))))
    · rw [al_s, e]
      rfl
    · rw [al_s, e]
      simp [e2, bI]
    · rw [al_s, e]
      simp [e2, bI]
theorem s_isM {c : Nat → Int32} {N w : Nat} {T : Nat → Nat → Nat} {M : Nat → Nat} {thr : Int32} {mh mo : Nat → Int32} {K : Int32 → Int32 → (Nat → Int32) → (Nat → Int32) → Prop} (ht : tab c N T) (hN : N ≤ 8) (hM : lab N (orbC T N) M) (hw : w ≤ 4)
    (h : ∀ b d, K (bI (isV T N M w)) thr b d) : lpW5 (pX11_is_39 (nI N) c K (nI w) thr mh mo) (1 : Int32) (1 : Int32) (1 : Int32) (1 : Int32) (0 : Int32) := by
  have h8 := p2_8 hN
  refine lpW5_for N (fun i x2 x3 x4 x5 x6 => x6 = nI i ∧ x2 = bI (al (fun a => T a a == a) i) ∧ x3 = bI (al (fun a => al (fun b => T a (T a b) == b) N) i) ∧ x4 = bI (al (fun a => al (fun b => decide (b ≤ a) || !sameR T N a b) N) i) ∧ x5 = bI (al (fun b => msk (fun a => T a b) N == 2 ^ N - 1) i)) 0 (Nat.zero_le _) ⟨nI_0.symm, rfl, rfl, rfl, rfl⟩ ?_
  rintro i hi x2 x3 x4 x5 x6 ⟨rfl, rfl, rfl, rfl, rfl⟩ R hR
  refine pk_le N i (fun hle => ?_) (fun hlt => ?_)
  · have e : i = N := by omega
    subst e
    have hr := rk_le M i
    have fin : ∀ s0, s0 = bI (rk M i == 1) → ∀ b d, pX11_is_210 (nI i) c K (nI w) (bI (al (fun a => T a a == a) i)) (bI (al (fun a => al (fun b => T a (T a b) == b) i) i)) (bI (al (fun a => al (fun b => decide (b ≤ a) || !sameR T i a b) i) i)) (bI (al (fun b => msk (fun a => T a b) i == 2 ^ i - 1) i)) s0 thr b d := by
      rintro s0 rfl b d
      have fin2 : ∀ q : Bool, q = isV T i M w → pX11_is_251 (nI i) c K (bI q) thr b d := by
        rintro q rfl
        have hk := h b d
        refine bI_c _ (fun e => ?_) (fun e => ?_)
        · rw [e] at hk
          exact hk
        · rw [e] at hk
          exact hk
      refine ⟨fun n0 => ⟨fun n1 => ⟨fun n2 => ⟨fun n3 => fin2 _ ?_, fun n3 => fin2 _ ?_⟩, fun n2 => fin2 _ ?_⟩, fun n1 => fin2 _ ?_⟩, fun n0 => fin2 _ ?_⟩
      · have a0 : w ≠ 0 := fun z => n0 (by rw [z]; rfl)
        have a1 : w ≠ 1 := fun z => n1 (by rw [z]; rfl)
        have a2 : w ≠ 2 := fun z => n2 (by rw [z]; rfl)
        have a3 : w ≠ 3 := fun z => n3 (by rw [z]; rfl)
        simp [isV, a0, a1, a2, a3]
      · have e' : w = 3 := nI_inj (b := 3) (by omega) (by omega) n3
        simp [isV, e']
      · have e' : w = 2 := nI_inj (b := 2) (by omega) (by omega) n2
        simp [isV, e']
      · have e' : w = 1 := nI_inj (b := 1) (by omega) (by omega) n1
        simp [isV, e']
      · have e' : w = 0 := nI_inj (b := 0) (by omega) (by omega) n0
        simp [isV, e']
    refine s_orbM hN ht hM (fun h' o' _ => pk_ne (rk M i) 1 (by omega) (by omega) (fun e => fin 1 ?_ h' o') (fun e => fin 0 ?_ h' o'))
    · simp [e, bI]
    · simp [e, bI]
  · have key : ∀ s0, s0 = bI (al (fun a => T a a == a) (i + 1)) → pX11_is_70 (nI N) c R K (nI w) thr mh mo (bI (al (fun a => al (fun b => T a (T a b) == b) N) i)) (bI (al (fun a => al (fun b => decide (b ≤ a) || !sameR T N a b) N) i)) (bI (al (fun b => msk (fun a => T a b) N == 2 ^ N - 1) i)) (nI i) s0 := by
      rintro s0 rfl
      refine lpW4_for N (fun j x3 x4 x7 x8 => x8 = nI j ∧ x7 = nI (msk (fun a => T a i) j) ∧ x3 = bI (al (fun a => al (fun b => T a (T a b) == b) N) i && al (fun b => T i (T i b) == b) j) ∧ x4 = bI (al (fun a => al (fun b => decide (b ≤ a) || !sameR T N a b) N) i && al (fun b => decide (b ≤ i) || !sameR T N i b) j)) 0 (Nat.zero_le _) ⟨nI_0.symm, nI_0.symm, by simp [al], by simp [al]⟩ ?_
      rintro j hj x3 x4 x7 x8 ⟨rfl, rfl, rfl, rfl⟩ R2 hR2
      refine pk_le N j (fun hle => ?_) (fun hlt2 => ?_)
      · have e : j = N := by omega
        subst e
        have hm : msk (fun a => T a i) j < 2 ^ j := msk_lt (fun q hq => (ht q i hq hlt).2)
        have fin : ∀ v, v = bI (al (fun b => msk (fun a => T a b) j == 2 ^ j - 1) (i + 1)) → R (bI (al (fun a => T a a == a) (i + 1))) (bI (al (fun a => al (fun b => T a (T a b) == b) j) i && al (fun b => T i (T i b) == b) j)) (bI (al (fun a => al (fun b => decide (b ≤ a) || !sameR T j a b) j) i && al (fun b => decide (b ≤ i) || !sameR T j i b) j)) v (nI i + 1) := fun v e => hR hlt _ _ _ _ _ ⟨nI_1 i, rfl, rfl, rfl, e⟩
        rw [n_all (by omega)]
        refine bI_c _ (fun e => fin 0 ?_) (fun e => pk_ne (msk (fun a => T a i) j) (2 ^ j - 1) (by omega) (by omega) (fun e2 => fin 1 ?_) (fun e2 => fin 0 ?_))
        · rw [al_s, e]
          rfl
        · rw [al_s, e]
          simp [e2, bI]
        · rw [al_s, e]
          simp [e2, bI]
      · have b1 := (ht i j hlt hlt2).2
        have b2 := (ht i _ hlt b1).2
        have key2 : ∀ s1, s1 = bI (al (fun a => al (fun b => T a (T a b) == b) N) i && al (fun b => T i (T i b) == b) (j + 1)) → pX11_is_114 (nI N) c R R2 K (nI w) thr mh mo (bI (al (fun a => T a a == a) (i + 1))) (bI (al (fun b => msk (fun a => T a b) N == 2 ^ N - 1) i)) (nI i) (bI (al (fun a => al (fun b => decide (b ≤ a) || !sameR T N a b) N) i && al (fun b => decide (b ≤ i) || !sameR T N i b) j)) (nI (msk (fun a => T a i) j)) (nI j) s1 := by
          rintro s1 rfl
          refine t_by ht hN hlt2 hlt ?_
          rw [n_msk (f := fun a => T a i) (N := N) (ht j i hlt2 hlt).2 (by omega)]
          have fin : ∀ v, v = bI (al (fun a => al (fun b => decide (b ≤ a) || !sameR T N a b) N) i && al (fun b => decide (b ≤ i) || !sameR T N i b) (j + 1)) → R2 (bI (al (fun a => al (fun b => T a (T a b) == b) N) i && al (fun b => T i (T i b) == b) (j + 1))) v (nI (msk (fun a => T a i) (j + 1))) (nI j + 1) := fun v e => hR2 hlt2 _ _ _ _ ⟨nI_1 j, rfl, rfl, e⟩
          refine bI_c _ (fun e => fin 0 ?_) (fun e => ?_)
          · rw [al_s, ← Bool.and_assoc, e]
            rfl
          · refine pk_le j i (fun hle => fin 1 ?_) (fun hgt => s_sameM ht hN hlt hlt2 (bI_c' _ (fun e2 => fin 1 ?_) (fun e2 => fin 0 ?_)))
            · rw [al_s, ← Bool.and_assoc, e]
              simp [hle, bI]
            · rw [al_s, ← Bool.and_assoc, e, e2]
              simp [bI]
            · rw [al_s, ← Bool.and_assoc, e, e2]
              simp [bI]
              omega
        refine bI_c _ (fun e => key2 0 ?_) (fun e => t_by ht hN hlt hlt2 (t_by ht hN hlt b1 (pk_ne (T i (T i j)) j (by omega) (by omega) (fun e2 => key2 1 ?_) (fun e2 => key2 0 ?_))))
        · rw [al_s, ← Bool.and_assoc, e]
          rfl
        · rw [al_s, ← Bool.and_assoc, e]
          simp [e2, bI]
        · rw [al_s, ← Bool.and_assoc, e]
          simp [e2, bI]
    have b := (ht i i hlt hlt).2
    refine bI_c _ (fun e => key 0 ?_) (fun e => t_by ht hN hlt hlt (pk_ne (T i i) i (by omega) (by omega) (fun e2 => key 1 ?_) (fun e2 => key 0 ?_)))
    · rw [al_s, e]
      rfl
    · rw [al_s, e]
      simp [e2, bI]
    · rw [al_s, e]
      simp [e2, bI]
theorem op_is {cn : Int32} {cc : Nat → Int32} {kn : Int32} {kl km : Nat → Int32} {thr mn : Int32} {mh mo mt : Nat → Int32} {x1 : Int32} (h : RelT cn cc mn mt) :
    pX10_is kn kl km cn cc x1 (fun r _ _ _ => pX11_is thr mn mh mo mt x1 (fun r' _ _ _ => r = r')) := by
  obtain ⟨N, T, h1, h8, rfl, rfl, hx, hm⟩ := h
  have no : ¬ rg 0 4 x1 → pX11_is thr (nI N) mh mo mt x1 (fun r' _ _ _ => (-1 : Int32) = r') := fun hn =>
    s_inR 0 4 (by decide) (by decide) rfl rfl (fun q => absurd q hn) (fun _ => y0 rfl)
  rw [rg_iff (by decide)] at no
  refine ⟨fun q => no ?_, fun q => ⟨fun q2 => no ?_, fun q2 => ?_⟩⟩
  · rw [i_lt, Int32.toInt_zero] at q
    omega
  · rw [i_lt, show (4 : Int32).toInt = 4 from rfl] at q2
    omega
  · have hg : rg 0 4 x1 := by
      rw [rg_iff (by decide)]
      rw [i_lt, Int32.toInt_zero] at q
      rw [i_lt, show (4 : Int32).toInt = 4 from rfl] at q2
      omega
    refine s_isRack hx h8 (fun hk => y1' ?_) (fun hk => y0' (s_inR 0 4 (by decide) (by decide) rfl rfl (fun _ => y1 (s_isRackM hm h8 (fun q => absurd q hk) (fun _ => y0' rfl))) (fun q => absurd hg q)))
    obtain ⟨M, hM⟩ := orb_ex (N := N) (fun a b ha hb => (hx a b ha hb).2)
    obtain ⟨w, -, hw, rfl⟩ := id hg
    refine s_holds hx h8 hM hw (fun a b d => ?_)
    have fin : pX11_is thr (nI N) mh mo mt (nI w) (fun r' _ _ _ => bI (isV T N M w) = r') :=
      s_inR 0 4 (by decide) (by decide) rfl rfl (fun _ => y1 (s_isRackM hm h8 (fun _ => y1' (s_isM hm h8 hM hw (fun _ _ => rfl))) (fun q => absurd hk q))) (fun q => absurd hg q)
    refine bI_c _ (fun e => ?_) (fun e => ?_)
    · rw [e] at fin
      exact fin
    · rw [e] at fin
      exact fin
