/-! The equations of closed twists, and the bench's way to count what stays free. -/
def dl (i j : Nat) : Int := if j = i then 1 else 0
def eqv (T : Nat → Nat → Nat) (a b c j : Nat) : Int := dl (8 * b + c) j + dl (8 * a + T b c) j - dl (8 * a + c) j - dl (8 * T a b + T a c) j
def Av (T : Nat → Nat → Nat) (N e j : Nat) : Int := eqv T (e / N / N) (e / N % N) (e % N) j
def ro (N u : Nat) : Nat := 8 * (u / N) + u % N
theorem ix_div {N a b : Nat} (hb : b < N) : (a * N + b) / N = a ∧ (a * N + b) % N = b := by
  have h : 0 < N := by omega
  rw [Nat.add_comm, Nat.add_mul_div_right _ _ h, Nat.div_eq_of_lt hb, Nat.zero_add, Nat.add_mul_mod_self_right, Nat.mod_eq_of_lt hb]
  exact ⟨rfl, rfl⟩
theorem Av_at {T : Nat → Nat → Nat} {N a b c : Nat} (hb : b < N) (hc : c < N) : Av T N ((a * N + b) * N + c) = eqv T a b c := by
  funext j
  unfold Av
  rw [(ix_div hc).1, (ix_div hc).2, (ix_div hb).1, (ix_div hb).2]
theorem ro_iff {N a b u : Nat} (hN : N ≤ 8) (hb : b < N) : ro N u = 8 * a + b ↔ u = a * N + b := by
  have h1 : u % N < N := Nat.mod_lt _ (by omega)
  have h2 := Nat.div_add_mod u N
  unfold ro
  constructor
  · intro h
    have e1 : u / N = a := by omega
    have e2 : u % N = b := by omega
    rw [e1, e2, Nat.mul_comm] at h2
    exact h2.symm
  · intro h
    rw [h, (ix_div hb).1, (ix_div hb).2]
theorem dl_ro {N a b u : Nat} (hN : N ≤ 8) (hb : b < N) : dl (8 * a + b) (ro N u) = dl (a * N + b) u := by
  unfold dl
  by_cases e : u = a * N + b
  · rw [if_pos e, if_pos ((ro_iff hN hb).mpr e)]
  · rw [if_neg e, if_neg (fun q => e ((ro_iff hN hb).mp q))]
theorem ix_lt {N a b : Nat} (ha : a < N) (hb : b < N) : a * N + b < N * N := by
  have : (a + 1) * N ≤ N * N := Nat.mul_le_mul_right N ha
  rw [Nat.add_mul, Nat.one_mul] at this
  omega
theorem ro_lt {N u : Nat} (hN : N ≤ 8) (hu : u < N * N) : ro N u < 64 := by
  have h0 : 0 < N := by
    rcases Nat.eq_zero_or_pos N with q | q
    · rw [q] at hu
      omega
    · exact q
  have h1 : u % N < N := Nat.mod_lt _ h0
  have h2 : u / N < N := (Nat.div_lt_iff_lt_mul h0).mpr hu
  unfold ro
  omega
theorem ro_mono {N u w : Nat} (hN : N ≤ 8) (huw : u < w) (hw : w < N * N) : ro N u < ro N w := by
  have h0 : 0 < N := by
    rcases Nat.eq_zero_or_pos N with q | q
    · rw [q] at hw
      omega
    · exact q
  have h1 : u % N < N := Nat.mod_lt _ h0
  have h2 : w % N < N := Nat.mod_lt _ h0
  have h3 := Nat.div_add_mod u N
  have h4 := Nat.div_add_mod w N
  have h5 : u / N ≤ w / N := Nat.div_le_div_right (by omega)
  unfold ro
  by_cases e : u / N = w / N
  · rw [e] at h3 ⊢
    omega
  · omega
theorem Av_out {T : Nat → Nat → Nat} {N e j : Nat} (hN : N ≤ 8) (hT : ∀ a b, a < N → b < N → T a b < N) (he : e < N * N * N) (hj : ∀ u, u < N * N → ro N u ≠ j) : Av T N e j = 0 := by
  have h0 : 0 < N := by
    rcases Nat.eq_zero_or_pos N with q | q
    · rw [q] at he
      omega
    · exact q
  have c1 : e % N < N := Nat.mod_lt _ h0
  have b1 : e / N % N < N := Nat.mod_lt _ h0
  have a1 : e / N / N < N := (Nat.div_lt_iff_lt_mul h0).mpr ((Nat.div_lt_iff_lt_mul h0).mpr he)
  have z : ∀ a b, a < N → b < N → dl (8 * a + b) j = 0 := fun a b ha hb => by
    unfold dl
    rw [if_neg (fun q => hj (a * N + b) (ix_lt ha hb) (by rw [q]; exact (ro_iff hN hb).mpr rfl))]
  unfold Av eqv
  rw [z _ _ b1 c1, z _ _ a1 (hT _ _ b1 c1), z _ _ a1 c1, z _ _ (hT _ _ a1 b1) (hT _ _ a1 c1)]
  rfl
/-- residues of a row -/
def res (p U : Nat) (x : Nat → Nat) (v : Nat → Int) : Prop := ∀ u, u < U → x u < p ∧ (p : Int) ∣ (x u : Int) - v u
theorem res_cong {p U : Nat} {x : Nat → Nat} {v w : Nat → Int} (h : res p U x v) (e : ∀ u, u < U → v u = w u) : res p U x w := fun u hu => by
  rw [← e u hu]
  exact h u hu
theorem res_add {p U u0 k : Nat} {x : Nat → Nat} {v : Nat → Int} {kk : Int} (hp : 0 < p) (h : res p U x v) (hk : (p : Int) ∣ (k : Int) - kk) : res p U (updN x u0 ((x u0 + k) % p)) (fun u => v u + kk * dl u0 u) := by
  intro u hu
  obtain ⟨h1, h2⟩ := h u hu
  unfold updN dl
  by_cases e : u = u0
  · rw [if_pos e]
    refine ⟨Nat.mod_lt _ hp, ?_⟩
    show (p : Int) ∣ (((x u0 + k) % p : Nat) : Int) - (v u + kk * if u = u0 then 1 else 0)
    rw [if_pos e, Int.mul_one, ← e]
    have h3 := mod_dv (p := p) ((x u + k : Nat) : Int)
    have h4 := Int.dvd_add h2 hk
    have h5 := Int.dvd_sub h4 h3
    refine dv_eq ?_ h5
    rw [Int.natCast_emod]
    omega
  · rw [if_neg e]
    refine ⟨h1, ?_⟩
    show (p : Int) ∣ (x u : Int) - (v u + kk * if u = u0 then 1 else 0)
    rw [if_neg e, Int.mul_zero, Int.add_zero]
    exact h2
theorem lbl_updI {f : Nat → Int32} {U : Nat} {x : Nat → Nat} (h : lbl f U x) (i v : Nat) : lbl (upd f i (nI v)) U (updN x i v) := lbl_upd h i v
theorem s_addTerm {p N a b k : Nat} {x : Nat → Nat} {eq : Nat → Int32} {x1 x2 x3 : Int32} {K : (Nat → Int32) → Prop} (hp : 0 < p) (hp8 : p < 8) (hN : N ≤ 8) (ha : a < N) (hb : b < N) (hk : k < 8) (e1 : x1 = nI a) (e2 : x2 = nI b) (e3 : x3 = nI k) (hl : lbl eq (N * N) x) (hx : ∀ u, u < N * N → x u < p) (h : ∀ eq', lbl eq' (N * N) (updN x (a * N + b) ((x (a * N + b) + k) % p)) → K eq') : pX6_addTerm (nI N) (nI p) eq x1 x2 x3 K := by
  subst e1 e2 e3
  have hi := ix_lt ha hb
  have h64 : N * N ≤ 64 := Nat.mul_le_mul hN hN
  have b1 := hx _ hi
  have ei : nI a * nI N + nI b = nI (a * N + b) := by rw [pk_mul, nI_add]
  have hne : ¬ nI p = 0 := nI_ne0 hp (by omega)
  unfold pX6_addTerm
  rw [ei, nI_clamp (by omega), hl _ hi, nI_add, pk_rem (by omega) hp (by omega)]
  exact ⟨vp_in_nI (by omega) (by decide), hne, vp_in_nI (by omega) (by decide), h _ (lbl_upd hl _ _)⟩
theorem s_tellEquation {p N a b c : Nat} {T : Nat → Nat → Nat} {eq cc : Nat → Int32} {K : (Nat → Int32) → Prop} (ht : tab cc N T) (hN : N ≤ 8) (hp : 2 ≤ p) (hp8 : p < 8) (ha : a < N) (hb : b < N) (hc : c < N)
    (h : ∀ eq' x, lbl eq' (N * N) x → res p (N * N) x (fun u => eqv T a b c (ro N u)) → K eq') : pX6_tellEquation (nI N) (nI p) eq cc (nI a) (nI b) (nI c) K := by
  have hT := tab_T ht
  have h64 : N * N ≤ 64 := Nat.mul_le_mul hN hN
  have t1 := hT b c hb hc
  have t2 := hT a b ha hb
  have t3 := hT a c ha hc
  have ep : nI p - 1 = nI (p - 1) := pk_sub (a := p) (b := 1) (by omega)
  refine s_fill (by decide) ?_
  have l0 : lbl (fa_fill (fun _ => (0 : Int32)) eq 64) (N * N) (fun _ => 0) := fun u hu => by rw [fa_fill_in (by omega)]; rfl
  have r0 : res p (N * N) (fun _ => 0) (fun _ => 0) := fun u hu => ⟨show 0 < p by omega, by simp⟩
  have d1 : (p : Int) ∣ ((1 : Nat) : Int) - 1 := by simp
  have d2 : (p : Int) ∣ ((p - 1 : Nat) : Int) - (-1) := ⟨1, by omega⟩
  refine s_addTerm (by omega) hp8 hN hb hc (by omega) rfl rfl (show (1 : Int32) = nI 1 from rfl) l0 (fun u hu => (r0 u hu).1) (fun e1 l1 => ?_)
  have r1 := res_add (u0 := b * N + c) (by omega) r0 d1
  refine t_turned ht hN hb hc (s_addTerm (by omega) hp8 hN ha t1 (by omega) rfl rfl (show (1 : Int32) = nI 1 from rfl) l1 (fun u hu => (r1 u hu).1) (fun e2 l2 => ?_))
  have r2 := res_add (u0 := a * N + T b c) (by omega) r1 d1
  refine s_addTerm (k := p - 1) (by omega) hp8 hN ha hc (by omega) rfl rfl ep l2 (fun u hu => (r2 u hu).1) (fun e3 l3 => ?_)
  have r3 := res_add (u0 := a * N + c) (by omega) r2 d2
  refine t_turned ht hN ha hb (t_turned ht hN ha hc (s_addTerm (k := p - 1) (by omega) hp8 hN t2 t3 (by omega) rfl rfl ep l3 (fun u hu => (r3 u hu).1) (fun e4 l4 => ?_)))
  have r4 := res_add (u0 := T a b * N + T a c) (by omega) r3 d2
  refine h e4 _ l4 (res_cong r4 (fun u hu => ?_))
  unfold eqv
  rw [dl_ro hN hc, dl_ro hN t1, dl_ro hN hc, dl_ro hN t3]
  omega
theorem wbc : ∀ k, k < 64 → ((nI k).toInt64 &&& 63) = lN k := by decide +kernel
theorem lg_tb (x : Int64) {k : Nat} (hk : k < 64) : (x >>> ((nI k).toInt64 &&& 63)) &&& 1 = 0 ↔ x.toBitVec.getLsbD k = false := by
  rw [wbc k hk, ← Int64.toBitVec_inj, Int64.toBitVec_and, Int64.toBitVec_shiftRight]
  have e1 : ((lN k).toBitVec.smod 64).toNat = k := by
    have : ∀ k, k < 64 → ((lN k).toBitVec.smod 64).toNat = k := by decide +kernel
    exact this k hk
  show x.toBitVec.sshiftRight ((lN k).toBitVec.smod 64).toNat &&& Int64.toBitVec 1 = Int64.toBitVec 0 ↔ _
  rw [e1]
  constructor
  · intro h
    have h2 := congrArg (fun v => BitVec.getLsbD v 0) h
    simp only [BitVec.getLsbD_and, BitVec.getLsbD_sshiftRight] at h2
    simpa [hk] using h2
  · intro h
    apply BitVec.eq_of_getLsbD_eq
    intro i hi
    rw [BitVec.getLsbD_and]
    by_cases e : i = 0
    · subst e
      rw [BitVec.getLsbD_sshiftRight]
      rw [BitVec.getLsbD_eq_getElem hk] at h
      simp [hk, h]
    · have : (1 : Int64).toBitVec.getLsbD i = false := by
        have : ∀ i, i < 64 → i ≠ 0 → (1 : Int64).toBitVec.getLsbD i = false := by decide +kernel
        exact this i hi e
      rw [this, Bool.and_false]
      simp
theorem lg_set (x : Int64) {k i : Nat} (hk : k < 64) (hi : i < 64) : (x ||| ((1 : Int64) <<< ((nI k).toInt64 &&& 63))).toBitVec.getLsbD i = (if i = k then true else x.toBitVec.getLsbD i) := by
  have e1 : ∀ k, k < 64 → ∀ i, i < 64 → ((1 : Int64) <<< ((nI k).toInt64 &&& 63)).toBitVec.getLsbD i = decide (i = k) := by decide +kernel
  rw [Int64.toBitVec_or, BitVec.getLsbD_or, e1 k hk i hi]
  by_cases e : i = k
  · simp [e]
  · simp [e]
