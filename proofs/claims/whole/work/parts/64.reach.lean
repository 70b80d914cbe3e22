/-! Where a level goes, and by what. -/
def rsP (N : Nat) (G : (Nat → Nat) → Prop) (L o : Nat) (ρ : Nat → Nat) (c : Nat → Nat → Nat) (car rch : Nat → Int32) : Prop :=
  1 ≤ o ∧ o ≤ N ∧ (∀ i, i < o → ρ i < N ∧ rch i = nI (ρ i) ∧ car (ρ i) = nI (pck (c i) N) ∧ G (c i) ∧ c i L = ρ i) ∧ (∀ i j, i < j → j < o → ρ i ≠ ρ j) ∧ (∀ b, b < N → (∀ i, i < o → ρ i ≠ b) → car b = -1) ∧ ρ 0 = L ∧ eqN N (c 0) (fun i => i)
def inO (ρ : Nat → Nat) (o b : Nat) : Prop := ∃ i, i < o ∧ ρ i = b
theorem rs_add {N : Nat} {G : (Nat → Nat) → Prop} {L o b : Nat} {ρ : Nat → Nat} {c : Nat → Nat → Nat} {car rch : Nat → Int32} {g : Nat → Nat} (h : rsP N G L o ρ c car rch) (hb : b < N) (hn : ¬ inO ρ o b) (hg : G g) (hgL : g L = b) : o < N ∧ rsP N G L (o + 1) (updN ρ o b) (fun i => if i = o then g else c i) (upd car b (nI (pck g N))) (upd rch o (nI b)) := by
  obtain ⟨h1, h2, h3, h4, h5, h6, h7⟩ := h
  have hn' : ∀ i, i < o → ρ i ≠ b := fun i hi e => hn ⟨i, hi, e⟩
  have eo : ∀ i, i < o → updN ρ o b i = ρ i := fun i hi => by
    unfold updN
    rw [if_neg (by omega)]
  have inj : ∀ i j, i < j → j < o + 1 → updN ρ o b i ≠ updN ρ o b j := by
    intro i j hij hj
    rw [eo i (by omega)]
    by_cases e : j = o
    · rw [e]
      unfold updN
      rw [if_pos rfl]
      exact hn' i (by omega)
    · rw [eo j (by omega)]
      exact h4 i j hij (by omega)
  have lt : ∀ i, i < o + 1 → updN ρ o b i < N := by
    intro i hi
    by_cases e : i = o
    · rw [e]
      unfold updN
      rw [if_pos rfl]
      exact hb
    · rw [eo i (by omega)]
      exact (h3 i (by omega)).1
  have hoN := fb_holes N (o + 1) (updN ρ o b) lt inj
  refine ⟨by omega, by omega, hoN, fun i hi => ?_, inj, fun x hx hxn => ?_, ?_, ?_⟩
  · refine ⟨lt i hi, ?_⟩
    by_cases e : i = o
    · rw [e]
      have e2 : updN ρ o b o = b := by
        unfold updN
        rw [if_pos rfl]
      rw [e2, pk_us, pk_us]
      simp only [if_true]
      exact ⟨trivial, trivial, hg, hgL⟩
    · rw [eo i (by omega), pk_un e, pk_un (hn' i (by omega))]
      simp only [if_neg e]
      exact (h3 i (by omega)).2
  · have e1 : x ≠ b := fun z => hxn o (by omega) (by unfold updN; rw [if_pos rfl, z])
    rw [pk_un e1]
    exact h5 x hx (fun i hi z => hxn i (by omega) (by rw [eo i hi]; exact z))
  · rw [eo 0 (by omega)]
    exact h6
  · simp only [if_neg (show ¬ 0 = o by omega)]
    exact h7
theorem s_identity {N : Nat} {K : Int32 → Prop} (h1 : 1 ≤ N) (hN : N ≤ 8) (h : K (nI (pck (fun i => i) N))) : pX5_identity (nI N) K := by
  refine s_numbered h1 hN (fac_pos N) ?_
  rw [pck_cong (g := fun i => i) (fun i hi => pdg_0 N hN i hi)]
  exact h
theorem s_reach {N L : Nat} {sc car rch : Nat → Int32} {K : Int32 → (Nat → Int32) → (Nat → Int32) → Prop} (h1 : 1 ≤ N) (hN : N ≤ 8) (hL : L < N) (hsv : svOk N sc)
    (h : ∀ o ρ c car' rch', rsP N (Mn N (SS N sc L)) L o ρ c car' rch' → (∀ i, i < o → ∀ s, SS N sc L s → inO ρ o (s (ρ i))) → K (nI o) car' rch') : pX8_reachFrom car rch sc (nI L) (nI N) K := by
  refine s_fill (by decide) (s_identity h1 hN ⟨vp_in_nI (by omega) (by decide), vp_in_nI (n := 0) (by decide) (by decide), ?_⟩)
  rw [nI_clamp (by omega), sb_cl0]
  have st0 : rsP N (Mn N (SS N sc L)) L 1 (fun _ => L) (fun _ i => i) (upd (fa_fill (fun _ => (-1 : Int32)) car 8) L (nI (pck (fun i => i) N))) (upd rch 0 (nI L)) := by
    refine ⟨Nat.le_refl _, h1, fun i hi => ?_, fun i j hij hj => by omega, fun b hb hn => ?_, rfl, fun _ _ => rfl⟩
    · rw [show i = 0 by omega, pk_us, pk_us]
      exact ⟨hL, rfl, rfl, Mn_id, rfl⟩
    · have : b ≠ L := fun z => hn 0 (by omega) z.symm
      rw [pk_un this, fa_fill_in (by omega)]
  refine lpW4_for N (fun t x3 x4 a b => x4 = nI t ∧ ∃ o ρ c, x3 = nI o ∧ t ≤ o ∧ rsP N (Mn N (SS N sc L)) L o ρ c a b ∧ ∀ i, i < t → ∀ s, SS N sc L s → inO ρ o (s (ρ i))) 0 (Nat.zero_le _) ⟨nI_0.symm, 1, _, _, rfl, Nat.zero_le _, st0, fun i hi => absurd hi (Nat.not_lt_zero _)⟩ ?_
  rintro t htN x3 x4 a b ⟨rfl, o, ρ, c, rfl, hto, hrs, hcl⟩ R hR
  have hoN := hrs.2.1
  have done : o ≤ t → K (nI o) a b := fun q => h o ρ c a b hrs (fun i hi s hs => hcl i (by omega) s hs)
  refine pk_le o t (fun hle => done hle) (fun hlt => pk_le N t (fun hle => done (by omega)) (fun hlt2 => ⟨vp_in_nI (by omega) (by decide), ?_⟩))
  obtain ⟨q1, q2, q3, q4, q5, q6, q7⟩ := id hrs
  obtain ⟨p1, p2, p3, p4, p5⟩ := q3 t hlt
  rw [nI_clamp (by omega), p2]
  have e8 : nI L * 8 = nI (8 * L) := by rw [show (8 : Int32) = nI 8 from rfl, pk_mul, Nat.mul_comm]
  rw [e8]
  refine lpW4_for 64 (fun k x3 x6 a b => x6 = nI k ∧ 8 * L ≤ k ∧ ∃ o2 ρ2 c2, x3 = nI o2 ∧ o ≤ o2 ∧ (∀ i, i < o → ρ2 i = ρ i ∧ c2 i = c i) ∧ rsP N (Mn N (SS N sc L)) L o2 ρ2 c2 a b ∧ ∀ slot, 8 * L ≤ slot → slot < k → ∀ s, ent N sc slot s → inO ρ2 o2 (s (ρ t))) (8 * L) (by omega) ⟨rfl, Nat.le_refl _, o, ρ, c, rfl, Nat.le_refl _, fun _ _ => ⟨rfl, rfl⟩, hrs, fun slot h1 h2 => by omega⟩ ?_
  rintro k hk x3 x6 a b ⟨rfl, hLk, o2, ρ2, c2, rfl, hoo, hsame, hrs2, hcl2⟩ R2 hR2
  have up : ∀ x, inO ρ o x → inO ρ2 o2 x := fun x ⟨i, i1, i2⟩ => ⟨i, by omega, by rw [(hsame i i1).1]; exact i2⟩
  obtain ⟨w1, w2, w3, w4, w5, w6, w7⟩ := id hrs2
  refine pk_le 64 k (fun hle => ?_) (fun hltk => ?_)
  · refine hR hlt2 _ _ _ _ ⟨nI_1 t, o2, ρ2, c2, rfl, by omega, hrs2, fun i hi s hs => ?_⟩
    rw [(hsame i (by omega)).1]
    rcases Nat.lt_or_ge i t with q | q
    · exact up _ (hcl i q s hs)
    · rw [show i = t by omega]
      obtain ⟨slot, s1, s2, s3⟩ := hs
      exact hcl2 slot s1 (by omega) s s3
  · have next : (∀ s, ent N sc k s → inO ρ2 o2 (s (ρ t))) → R2 (nI o2) (nI k + 1) a b := fun hh => hR2 hltk _ _ _ _ ⟨nI_1 k, by omega, o2, ρ2, c2, rfl, hoo, hsame, hrs2, fun slot s1 s2 s hs => by
      rcases Nat.lt_or_ge slot k with q | q
      · exact hcl2 slot s1 q s hs
      · rw [show slot = k by omega] at hs
        exact hh s hs⟩
    have ptc : a (ρ t) = nI (pck (c t) N) := by
      have := (w3 t (by omega)).2.2.1
      rw [(hsame t hlt).1, (hsame t hlt).2] at this
      exact this
    have ctp := Mn_pm SS_pm p4
    refine ⟨vp_in_nI (by omega) (by decide), ?_⟩
    rw [nI_clamp (by omega)]
    rcases hsv k hltk with q | ⟨f, f1, f2⟩
    · rw [q]
      refine ⟨fun z => absurd rfl z, fun _ => ⟨vp_in_nI (by omega) (by decide), ?_⟩⟩
      rw [nI_clamp (by omega), ptc]
      exact ⟨fun _ => next (fun s hs => absurd (by rw [← hs.2]; exact q) (pck_ne1 hN hs.1)), fun z => absurd z (pck_ne1 hN ctp)⟩
    · rw [f1.2]
      have fp := f1.1
      have bt := fp.1 _ p1
      have hSf : SS N sc L f := ⟨k, hLk, hltk, f1⟩
      have same : ∀ s, ent N sc k s → s (ρ t) = f (ρ t) := fun s hs => ent_eq hN hs f1 _ p1
      refine ⟨fun _ => ⟨vp_in_nI (by omega) (by decide), s_imageP hN (pk8 hN fp) p1 ⟨vp_in_nI (by omega) (by decide), ?_⟩⟩, fun z => absurd z (pck_ne1 hN fp)⟩
      rw [nI_clamp (by omega)]
      by_cases hin : inO ρ2 o2 (f (ρ t))
      · obtain ⟨i, i1, i2⟩ := id hin
        obtain ⟨-, -, v3, v4, -⟩ := w3 i i1
        rw [← i2, v3]
        exact ⟨fun _ => next (fun s hs => by rw [same s hs]; exact hin), fun z => absurd z (pck_ne1 hN (Mn_pm SS_pm v4))⟩
      · have hgM : Mn N (SS N sc L) (fun i => f (c t i)) := Mn_mul hSf p4
        obtain ⟨r1, r2⟩ := rs_add (g := fun i => f (c t i)) hrs2 bt hin hgM (by show f (c t L) = f (ρ t); rw [p5])
        rw [w5 _ bt (fun i hi z => hin ⟨i, hi, z⟩)]
        refine ⟨fun z => absurd rfl z, fun _ => pk_le N o2 (fun z => by omega) (fun _ => ⟨vp_in_nI (by omega) (by decide), vp_in_nI (by omega) (by decide), ?_⟩)⟩
        rw [nI_clamp (by omega), nI_clamp (by omega), f1.2, ptc]
        refine s_after hN (pk8 hN fp) ctp.1 ⟨vp_in_nI (by omega) (by decide), vp_in_nI (by omega) (by decide), ?_⟩
        rw [nI_clamp (by omega)]
        refine hR2 hltk _ _ _ _ ⟨nI_1 k, by omega, o2 + 1, _, _, nI_1 o2, by omega, fun i hi => ?_, r2, fun slot s1 s2 s hs => ?_⟩
        · obtain ⟨e1, e2⟩ := hsame i hi
          refine ⟨?_, ?_⟩
          · unfold updN
            rw [if_neg (by omega)]
            exact e1
          · show (if i = o2 then _ else c2 i) = c i
            rw [if_neg (by omega)]
            exact e2
        · have up2 : ∀ x, inO ρ2 o2 x → inO (updN ρ2 o2 (f (ρ t))) (o2 + 1) x := fun x ⟨i, i1, i2⟩ => ⟨i, by omega, by unfold updN; rw [if_neg (by omega)]; exact i2⟩
          rcases Nat.lt_or_ge slot k with q | q
          · exact up2 _ (hcl2 slot s1 q s hs)
          · rw [show slot = k by omega] at hs
            rw [same s hs]
            exact ⟨o2, by omega, by unfold updN; rw [if_pos rfl]⟩
