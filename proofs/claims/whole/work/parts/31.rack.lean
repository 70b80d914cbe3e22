/-! Rows, triples, racks: both sides come to one value. -/
def tornF (T : Nat → Nat → Nat) (N : Nat) (a : Nat) : Option Nat := if msk (T a) N = 2 ^ N - 1 then none else some a
def torn (T : Nat → Nat → Nat) (N : Nat) : Option Nat := findO (tornF T N) N
def brkF (T : Nat → Nat → Nat) (a b c : Nat) : Option Nat := if T a (T b c) = T (T a b) (T a c) then none else some ((8 * a + b) * 8 + c)
def brk (T : Nat → Nat → Nat) (N : Nat) : Option Nat := findO (fun a => findO (fun b => findO (fun c => brkF T a b c) N) N) N
def oI (o : Option Nat) : Int32 := match o with
  | some r => nI r
  | none => -1
def rackB (T : Nat → Nat → Nat) (N : Nat) : Prop := torn T N = none ∧ brk T N = none
theorem n_trip (a b c : Nat) : ((nI a * 8 + nI b) * 8) + nI c = nI ((8 * a + b) * 8 + c) := by
  rw [ix8, show (8 : Int32) = nI 8 from rfl, pk_mul, nI_add]
theorem p2_8 {N : Nat} (h : N ≤ 8) : 2 ^ N ≤ 256 := Nat.pow_le_pow_right (by decide) h
theorem s_torn {c : Nat → Int32} {N : Nat} {T : Nat → Nat → Nat} {K : Int32 → Prop} (ht : tab c N T) (hN : N ≤ 8) (h : K (oI (torn T N))) : pX7_firstTornRow (nI N) c K := by
  refine lpW1_for N (fun i x => x = nI i ∧ findO (tornF T N) i = none) 0 (Nat.zero_le _) ⟨nI_0.symm, rfl⟩ ?_
  rintro i hi x ⟨rfl, hI⟩ R hR
  refine pk_le N i (fun hle => ?_) (fun hlt => ?_)
  · have e : i = N := by omega
    subst e
    unfold torn at h
    rw [hI] at h
    exact h
  · refine lpW2_for N (fun j x3 x4 => x4 = nI j ∧ x3 = nI (msk (T i) j)) 0 (Nat.zero_le _) ⟨nI_0.symm, nI_0.symm⟩ ?_
    rintro j hj x3 x4 ⟨rfl, rfl⟩ R2 hR2
    refine pk_le N j (fun hle => ?_) (fun hlt2 => ?_)
    · have e : j = N := by omega
      subst e
      have hm : msk (T i) j < 2 ^ j := msk_lt (fun q hq => (ht i q hlt hq).2)
      have h8 := p2_8 hN
      rw [n_all (by omega)]
      refine pk_eq (msk (T i) j) (2 ^ j - 1) (fun e => ?_) (fun e => ?_)
      · exact hR hlt _ ⟨nI_1 i, by rw [findO_step hI]; simp [tornF, e]⟩
      · have e2 : findO (tornF T j) j = some i := findO_hit hI (by simp [tornF, e]) j hlt
        unfold torn at h
        rw [e2] at h
        exact h
    · exact t_turned ht hN hlt hlt2 (hR2 hlt2 _ _ ⟨nI_1 j, n_msk (N := N) (ht i j hlt hlt2).2 (by omega)⟩)
theorem s_uneven {c : Nat → Int32} {N : Nat} {T : Nat → Nat → Nat} {K : Int32 → Prop} (ht : tab c N T) (hN : N ≤ 8) (h : K (oI (torn T N))) : pX11_unevenRow (nI N) c K := by
  refine lpW1_for N (fun i x => x = nI i ∧ findO (tornF T N) i = none) 0 (Nat.zero_le _) ⟨nI_0.symm, rfl⟩ ?_
  rintro i hi x ⟨rfl, hI⟩ R hR
  refine pk_le N i (fun hle => ?_) (fun hlt => ?_)
  · have e : i = N := by omega
    subst e
    unfold torn at h
    rw [hI] at h
    exact h
  · refine lpW2_for N (fun j x3 x4 => x4 = nI j ∧ x3 = nI (msk (T i) j)) 0 (Nat.zero_le _) ⟨nI_0.symm, nI_0.symm⟩ ?_
    rintro j hj x3 x4 ⟨rfl, rfl⟩ R2 hR2
    refine pk_le N j (fun hle => ?_) (fun hlt2 => ?_)
    · have e : j = N := by omega
      subst e
      have hm : msk (T i) j < 2 ^ j := msk_lt (fun q hq => (ht i q hlt hq).2)
      have h8 := p2_8 hN
      rw [n_all (by omega)]
      refine pk_eq (msk (T i) j) (2 ^ j - 1) (fun e => ?_) (fun e => ?_)
      · exact hR hlt _ ⟨nI_1 i, by rw [findO_step hI]; simp [tornF, e]⟩
      · have e2 : findO (tornF T j) j = some i := findO_hit hI (by simp [tornF, e]) j hlt
        unfold torn at h
        rw [e2] at h
        exact h
    · exact t_by ht hN hlt hlt2 (hR2 hlt2 _ _ ⟨nI_1 j, n_msk (N := N) (ht i j hlt hlt2).2 (by omega)⟩)
theorem s_brk {c : Nat → Int32} {N : Nat} {T : Nat → Nat → Nat} {K : Int32 → Prop} (ht : tab c N T) (hN : N ≤ 8) (h : K (oI (brk T N))) : pX7_firstBrokenTriple (nI N) c K := by
  refine lpW1_for N (fun i x => x = nI i ∧ findO (fun a => findO (fun b => findO (fun c => brkF T a b c) N) N) i = none) 0 (Nat.zero_le _) ⟨nI_0.symm, rfl⟩ ?_
  rintro i hi x ⟨rfl, hI⟩ R hR
  refine pk_le N i (fun hle => ?_) (fun hlt => ?_)
  · have e : i = N := by omega
    subst e
    unfold brk at h
    rw [hI] at h
    exact h
  · refine lpW1_for N (fun j x => x = nI j ∧ findO (fun b => findO (fun c => brkF T i b c) N) j = none) 0 (Nat.zero_le _) ⟨nI_0.symm, rfl⟩ ?_
    rintro j hj x ⟨rfl, hJ⟩ R2 hR2
    refine pk_le N j (fun hle => ?_) (fun hlt2 => ?_)
    · have e : j = N := by omega
      subst e
      exact hR hlt _ ⟨nI_1 i, by rw [findO_step hI]; exact hJ⟩
    · refine lpW1_for N (fun k x => x = nI k ∧ findO (fun c => brkF T i j c) k = none) 0 (Nat.zero_le _) ⟨nI_0.symm, rfl⟩ ?_
      rintro k hk x ⟨rfl, hL⟩ R3 hR3
      refine pk_le N k (fun hle => ?_) (fun hlt3 => ?_)
      · have e : k = N := by omega
        subst e
        exact hR2 hlt2 _ ⟨nI_1 j, by rw [findO_step hJ]; exact hL⟩
      · have b1 := (ht j k hlt2 hlt3).2
        have b2 := (ht i j hlt hlt2).2
        have b3 := (ht i k hlt hlt3).2
        have b4 := (ht i _ hlt b1).2
        have b5 := (ht _ _ b2 b3).2
        refine t_turned ht hN hlt2 hlt3 (t_turned ht hN hlt b1 (t_turned ht hN hlt hlt2 (t_turned ht hN hlt hlt3 (t_turned ht hN b2 b3 ?_))))
        refine pk_eq (T i (T j k)) (T (T i j) (T i k)) (fun e => ?_) (fun e => ?_)
        · exact hR3 hlt3 _ ⟨nI_1 k, by rw [findO_step hL]; simp [brkF, e]⟩
        · have e1 : findO (fun c => brkF T i j c) N = some ((8 * i + j) * 8 + k) := findO_hit hL (by simp [brkF, e]) N hlt3
          have e2 : findO (fun b => findO (fun c => brkF T i b c) N) N = some ((8 * i + j) * 8 + k) := findO_hit hJ e1 N hlt2
          have e3 : brk T N = some ((8 * i + j) * 8 + k) := findO_hit (f := fun a => findO (fun b => findO (fun c => brkF T a b c) N) N) hI e2 N hlt
          rw [e3] at h
          rw [n_trip]
          exact h
theorem s_unruly {c : Nat → Int32} {N : Nat} {T : Nat → Nat → Nat} {K : Int32 → Prop} (ht : tab c N T) (hN : N ≤ 8) (h : K (oI (brk T N))) : pX11_unruly (nI N) c K := by
  refine lpW1_for N (fun i x => x = nI i ∧ findO (fun a => findO (fun b => findO (fun c => brkF T a b c) N) N) i = none) 0 (Nat.zero_le _) ⟨nI_0.symm, rfl⟩ ?_
  rintro i hi x ⟨rfl, hI⟩ R hR
  refine pk_le N i (fun hle => ?_) (fun hlt => ?_)
  · have e : i = N := by omega
    subst e
    unfold brk at h
    rw [hI] at h
    exact h
  · refine lpW1_for N (fun j x => x = nI j ∧ findO (fun b => findO (fun c => brkF T i b c) N) j = none) 0 (Nat.zero_le _) ⟨nI_0.symm, rfl⟩ ?_
    rintro j hj x ⟨rfl, hJ⟩ R2 hR2
    refine pk_le N j (fun hle => ?_) (fun hlt2 => ?_)
    · have e : j = N := by omega
      subst e
      exact hR hlt _ ⟨nI_1 i, by rw [findO_step hI]; exact hJ⟩
    · refine lpW1_for N (fun k x => x = nI k ∧ findO (fun c => brkF T i j c) k = none) 0 (Nat.zero_le _) ⟨nI_0.symm, rfl⟩ ?_
      rintro k hk x ⟨rfl, hL⟩ R3 hR3
      refine pk_le N k (fun hle => ?_) (fun hlt3 => ?_)
      · have e : k = N := by omega
        subst e
        exact hR2 hlt2 _ ⟨nI_1 j, by rw [findO_step hJ]; exact hL⟩
      · have b1 := (ht j k hlt2 hlt3).2
        have b2 := (ht i j hlt hlt2).2
        have b3 := (ht i k hlt hlt3).2
        have b4 := (ht i _ hlt b1).2
        have b5 := (ht _ _ b2 b3).2
        refine t_by ht hN hlt2 hlt3 (t_by ht hN hlt b1 (t_by ht hN hlt hlt2 (t_by ht hN hlt hlt3 (t_by ht hN b2 b3 ?_))))
        refine pk_eq (T i (T j k)) (T (T i j) (T i k)) (fun e => ?_) (fun e => ?_)
        · exact hR3 hlt3 _ ⟨nI_1 k, by rw [findO_step hL]; simp [brkF, e]⟩
        · have e1 : findO (fun c => brkF T i j c) N = some ((8 * i + j) * 8 + k) := findO_hit hL (by simp [brkF, e]) N hlt3
          have e2 : findO (fun b => findO (fun c => brkF T i b c) N) N = some ((8 * i + j) * 8 + k) := findO_hit hJ e1 N hlt2
          have e3 : brk T N = some ((8 * i + j) * 8 + k) := findO_hit (f := fun a => findO (fun b => findO (fun c => brkF T a b c) N) N) hI e2 N hlt
          rw [e3] at h
          rw [n_trip]
          exact h
theorem torn_lt {T : Nat → Nat → Nat} {N a : Nat} (h : torn T N = some a) : a < N := by
  obtain ⟨i, hi, e, -⟩ := findO_some h
  unfold tornF at e
  split at e
  · cases e
  · cases e
    exact hi
theorem brk_of {T : Nat → Nat → Nat} {N r : Nat} (h : brk T N = some r) : ∃ a b c, a < N ∧ b < N ∧ c < N ∧ r = (8 * a + b) * 8 + c := by
  obtain ⟨a, ha, h1, -⟩ := findO_some h
  obtain ⟨b, hb, h2, -⟩ := findO_some h1
  obtain ⟨c, hc, h3, -⟩ := findO_some h2
  unfold brkF at h3
  split at h3
  · cases h3
  · cases h3
    exact ⟨a, b, c, ha, hb, hc, rfl⟩
theorem s_isRack {c : Nat → Int32} {N : Nat} {T : Nat → Nat → Nat} {K : Int32 → Prop} (ht : tab c N T) (hN : N ≤ 8) (h1 : rackB T N → K 1) (h0 : ¬ rackB T N → K 0) : pX7_isRack (nI N) c K := by
  refine s_torn ht hN ?_
  cases e : torn T N with
  | some a =>
    have ha := torn_lt e
    exact ⟨fun _ => ⟨Or.inl rfl, h0 (fun q => by rw [q.1] at e; cases e)⟩, fun q => absurd q (nI_neg (by omega))⟩
  | none =>
    refine ⟨fun q => absurd rfl q, fun _ => s_brk ht hN ?_⟩
    cases e2 : brk T N with
    | some r =>
      obtain ⟨a, b, c', ha, hb, hc, rfl⟩ := brk_of e2
      exact ⟨fun _ => ⟨Or.inl rfl, h0 (fun q => by rw [q.2] at e2; cases e2)⟩, fun q => absurd q (nI_neg (by omega))⟩
    | none => exact ⟨fun q => absurd rfl q, fun _ => ⟨Or.inr rfl, h1 ⟨e, e2⟩⟩⟩
theorem s_isRackM {c : Nat → Int32} {N : Nat} {T : Nat → Nat → Nat} {K : Int32 → Prop} (ht : tab c N T) (hN : N ≤ 8) (h1 : rackB T N → K 1) (h0 : ¬ rackB T N → K 0) : pX11_isRack (nI N) c K := by
  refine s_uneven ht hN ?_
  cases e : torn T N with
  | some a =>
    have ha := torn_lt e
    exact ⟨fun _ => ⟨Or.inl rfl, h0 (fun q => by rw [q.1] at e; cases e)⟩, fun q => absurd (nI_pos' (by omega)) q⟩
  | none =>
    refine ⟨fun q => absurd q (by decide), fun _ => s_unruly ht hN ?_⟩
    cases e2 : brk T N with
    | some r =>
      obtain ⟨a, b, c', ha, hb, hc, rfl⟩ := brk_of e2
      exact ⟨fun _ => ⟨Or.inl rfl, h0 (fun q => by rw [q.2] at e2; cases e2)⟩, fun q => absurd (nI_pos' (by omega)) q⟩
    | none => exact ⟨fun q => absurd q (by decide), fun _ => ⟨Or.inr rfl, h1 ⟨e, e2⟩⟩⟩
