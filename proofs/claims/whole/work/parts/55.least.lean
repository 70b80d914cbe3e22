/-! All names, column by column; the least table. -/
def postN (N : Nat) (T : Nat → Nat → Nat) (m c : Nat) (t : Nat → Nat) (fr : Nat → Int32) (B : Nat → Nat → Nat) (m' : Int32) (bc' fr' nm' tg' : Nat → Int32) : Prop :=
  m' = nI m ∧ stN N m t nm' tg' ∧ (∀ j, j < c → fr' j = fr j) ∧ ∃ B', tab bc' N B' ∧ mkd N T B' ∧ ¬ ltT N B B' ∧ cov N T m t B'
/-- what a call that names from column c on is to do -/
def NC (N : Nat) (T : Nat → Nat → Nat) (cc tw : Nat → Int32) (f : Int32 → (Nat → Int32) → (Nat → Int32) → (Nat → Int32) → (Nat → Int32) → (Nat → Int32) → Int32 → (Nat → Int32) → Int32 → (Int32 → (Nat → Int32) → (Nat → Int32) → (Nat → Int32) → (Nat → Int32) → Prop) → Prop) (c lo : Nat) : Prop :=
  ∀ (m : Nat) (t : Nat → Nat) (nm tg fr bc : Nat → Int32) (B : Nat → Nat → Nat) (K : Int32 → (Nat → Int32) → (Nat → Int32) → (Nat → Int32) → (Nat → Int32) → Prop), stN N m t nm tg → lo ≤ m → frOk T m c t fr → tab bc N B → mkd N T B →
  (∀ m' bc' fr' nm' tg', postN N T m c t fr B m' bc' fr' nm' tg' → K m' bc' fr' nm' tg') → f (nI m) bc fr nm tg tw (nI N) cc (nI c) K
theorem frOk_up {T : Nat → Nat → Nat} {m c x : Nat} {t : Nat → Nat} {fr : Nat → Int32} (hc : c ≤ m) (h0 : 0 < m) (h : frOk T m c t fr) : frOk T (m + 1) c (updN t m x) fr := by
  have et : ∀ i, i < m → updN t m x i = t i := fun i hi => by
    unfold updN
    rw [if_neg (by omega)]
  intro j hj
  obtain ⟨i, i1, i2, i3⟩ := h j hj
  refine ⟨i, by omega, ?_, i3⟩
  rw [et 0 h0, et j (by omega), et i i1]
  exact i2
theorem frOk_next {T : Nat → Nat → Nat} {m c i : Nat} {t : Nat → Nat} {fr : Nat → Int32} (h : frOk T m c t fr) (hi : i < m) (e : T (t 0) (t c) = t i) : frOk T m (c + 1) t (upd fr c (nI i)) := by
  intro j hj
  by_cases q : j = c
  · subst q
    exact ⟨i, hi, e, pk_us⟩
  · rw [pk_un q]
    exact h j (by omega)
/-- pruned, or gone through: all that go on from here are no less -/
theorem above_cov {N : Nat} {T B : Nat → Nat → Nat} {m c : Nat} {t : Nat → Nat} {fr : Nat → Int32} {g : Nat → Nat} (hN : N ≤ 8) (hm : m ≤ N) (ht : ∀ i, i < m → t i < N) (hc : c < m) (hfr : frOk T m (c + 1) t fr) (hg : lbl fr (c + 1) g) (hgm : ∀ j, j ≤ c → g j < m) (ha : abv B g c) : cov N T m t B := by
  intro σ S hi he
  obtain ⟨b, b1, b2, b3⟩ := ha
  have row : ∀ j, j ≤ c → S 0 j = g j := by
    intro j hj
    obtain ⟨i, i1, i2, i3⟩ := hfr j (by omega)
    have e := row_ext hi he ht (by omega) (by omega) i1 i2
    have e2 := hg j (by omega)
    have := hgm j hj
    rw [e]
    rw [i3] at e2
    exact nI_inj (by omega) (by omega) e2
  refine lt_asym ⟨0, b, by omega, by omega, by rw [row b b1]; exact b2, fun a j ha hj w => ?_⟩
  have ea : a = 0 := by omega
  subst ea
  rw [row j (by omega)]
  exact (b3 j (by omega)).symm
theorem frOk_cong {T : Nat → Nat → Nat} {m c : Nat} {t : Nat → Nat} {fr f : Nat → Int32} (h : frOk T m c t fr) (e : ∀ j, j < c → f j = fr j) : frOk T m c t f := by
  intro j hj
  rw [e j hj]
  exact h j hj
theorem frOk_lbl {T : Nat → Nat → Nat} {m c : Nat} {t : Nat → Nat} {fr : Nat → Int32} (hm : m ≤ 8) (h : frOk T m c t fr) : lbl fr c (fun j => (fr j).toNatClampNeg) ∧ ∀ j, j < c → (fr j).toNatClampNeg < m := by
  refine ⟨fun j hj => ?_, fun j hj => ?_⟩
  · obtain ⟨i, i1, -, i3⟩ := h j hj
    show fr j = nI (fr j).toNatClampNeg
    rw [i3, nI_clamp (by omega)]
  · obtain ⟨i, i1, -, i3⟩ := h j hj
    rw [i3, nI_clamp (by omega)]
    exact i1
theorem s_goThrough {N : Nat} {T : Nat → Nat → Nat} {cc tw : Nat → Int32} {d c : Nat} (ht : tab cc N T) (hN : N ≤ 8) (hc : c < N) (hNC : NC N T cc tw (pX4_nameColumn d) (c + 1) (c + 1)) : NC N T cc tw (pX4_goThrough_b (pX4_nameColumn d)) c (c + 1) := by
  intro m t nm tg fr bc B K hs hlo hfr hB hmk hK
  obtain ⟨h1, h2, h3, h4, h5, h6⟩ := id hs
  have hT := tab_T ht
  have t0 := h3 0 (by omega)
  have tc := h3 c (by omega)
  have hv := hT _ _ t0 tc
  refine ⟨vp_in_nI (n := 0) (by decide) (by decide), vp_in_nI (by omega) (by decide), ?_⟩
  rw [sb_cl0, nI_clamp (by omega), h2 0 (by omega), h2 c (by omega)]
  refine t_turned ht hN t0 tc ⟨vp_in_nI (by omega) (by decide), ?_⟩
  rw [nI_clamp (by omega)]
  by_cases hn : ∃ i, i < m ∧ t i = T (t 0) (t c)
  · obtain ⟨i, i1, i2⟩ := hn
    have e5 := h5 i i1
    rw [i2] at e5
    rw [e5]
    refine ⟨fun _ => ?_, fun q => absurd q (nI_neg (by omega))⟩
    refine y0 ⟨vp_in_nI (by omega) (by decide), vp_in_nI (by omega) (by decide), ?_⟩
    rw [nI_clamp (by omega), nI_clamp (by omega), e5]
    have hfr1 := frOk_next hfr i1 i2.symm
    obtain ⟨g1, g2⟩ := frOk_lbl (by omega) hfr1
    refine s_above hN hc hB g1 (fun j hj => by have := g2 j (by omega); omega) (fun ha => y1' ?_) (y0' ?_)
    · exact y0 (hK _ _ _ _ _ ⟨rfl, hs, fun j hj => pk_un (by omega), B, hB, hmk, lt_irr, above_cov hN h1 h3 (by omega) hfr1 g1 (fun j hj => g2 j (by omega)) ha⟩)
    · rw [nI_1]
      refine hNC m t nm tg _ bc B _ hs hlo hfr1 hB hmk (fun m' bc' fr' nm' tg' hp => y0 (hK _ _ _ _ _ ?_))
      obtain ⟨p1, p2, p3, p4⟩ := hp
      exact ⟨p1, p2, fun j hj => by rw [p3 j (by omega), pk_un (by omega)], p4⟩
  · have hop : ∀ i, i < m → t i ≠ T (t 0) (t c) := fun i hi e => hn ⟨i, hi, e⟩
    have e6 := h6 _ hv hop
    have hroom := stN_room hs hv hop
    rw [e6]
    refine ⟨fun q => absurd rfl q, fun _ => y1 (s_give hN hs hv hop (fun nm' tg' hs' hnv => ⟨vp_in_nI (by omega) (by decide), vp_in_nI (by omega) (by decide), ?_⟩))⟩
    rw [nI_clamp (by omega), nI_clamp (by omega), hnv]
    have et : ∀ i, i < m → updN t m (T (t 0) (t c)) i = t i := fun i hi => by
      unfold updN
      rw [if_neg (by omega)]
    have hfr1 : frOk T (m + 1) (c + 1) (updN t m (T (t 0) (t c))) (upd fr c (nI m)) := frOk_next (frOk_up (by omega) (by omega) hfr) (by omega) (by
      rw [et 0 (by omega), et c (by omega)]
      unfold updN
      rw [if_pos rfl])
    obtain ⟨g1, g2⟩ := frOk_lbl (by omega) hfr1
    obtain ⟨k1, k2, k3, -⟩ := id hs'
    refine s_above hN hc hB g1 (fun j hj => by have := g2 j (by omega); omega) (fun ha => y1' ?_) (y0' ?_)
    · refine y1 (s_takeBack hN hs' hv hop (fun nm2 hs2 => hK _ _ _ _ _ ⟨rfl, hs2, fun j hj => pk_un (by omega), B, hB, hmk, lt_irr, ?_⟩))
      exact exchange h3 hT (by omega) hroom hfr hop (above_cov hN k1 k3 (by omega) hfr1 g1 (fun j hj => g2 j (by omega)) ha)
    · rw [nI_1]
      refine hNC (m + 1) _ nm' tg' _ bc B _ hs' (by omega) hfr1 hB hmk (fun m' bc' fr' nm2 tg2 hp => ?_)
      obtain ⟨p1, p2, p3, B', q1, q2, q3, q4⟩ := hp
      rw [p1]
      refine y1 (s_takeBack hN p2 hv hop (fun nm3 hs3 => hK _ _ _ _ _ ⟨rfl, hs3, fun j hj => by rw [p3 j (by omega), pk_un (by omega)], B', q1, q2, q3, ?_⟩))
      exact exchange h3 hT (by omega) hroom hfr hop q4
theorem s_nameColumn {N : Nat} {T : Nat → Nat → Nat} {cc tw : Nat → Int32} (ht : tab cc N T) (hN : N ≤ 8) (htw : twOk N T tw) : ∀ d c, c ≤ N → N - c < d → NC N T cc tw (pX4_nameColumn d) c c := by
  intro d
  induction d with
  | zero => exact fun c _ h => absurd h (Nat.not_lt_zero _)
  | succ d ih =>
    intro c hc hd m t nm tg fr bc B K hs hlo hfr hB hmk hK
    have hT := tab_T ht
    have GT : c < N → NC N T cc tw (pX4_goThrough_b (pX4_nameColumn d)) c (c + 1) := fun hlt => s_goThrough ht hN hlt (ih (c + 1) (by omega) (by omega))
    obtain ⟨h1, h2, h3, h4, h5, h6⟩ := id hs
    refine pk_lt c N (fun hlt => pk_le m c (fun hle => ?_) (fun hgt => ?_)) (fun hge => ?_)
    · have emc : m = c := by omega
      refine lpW6_for N (fun a x3 mm b f nn g => x3 = nI a ∧ mm = nI m ∧ stN N m t nn g ∧ (∀ j, j < c → f j = fr j) ∧ ∃ B', tab b N B' ∧ mkd N T B' ∧ ¬ ltT N B B' ∧ ∀ σ S, iso N T S σ → extN m t σ → (∃ x, x < a ∧ σ x = m) → ¬ ltT N S B') 0 (Nat.zero_le _) ⟨nI_0.symm, rfl, hs, fun _ _ => rfl, B, hB, hmk, lt_irr, fun σ S _ _ ⟨x, hx, _⟩ => absurd hx (Nat.not_lt_zero _)⟩ ?_
      rintro a ha x3 mm b f nn g ⟨rfl, rfl, hs1, hf, B1, b1, b2, b3, b4⟩ R hR
      refine pk_le N a (fun hle2 => ?_) (fun hlt2 => ?_)
      · refine hK _ _ _ _ _ ⟨rfl, hs1, hf, B1, b1, b2, b3, fun σ S hi he => ?_⟩
        obtain ⟨x, hx, ex⟩ := pm_onto hi.1 (show m < N by omega)
        exact b4 σ S hi he ⟨x, by omega, ex⟩
      · obtain ⟨k1, k2, k3, k4, k5, k6⟩ := id hs1
        have next : (∀ σ S, iso N T S σ → extN m t σ → σ a = m → ¬ ltT N S B1) → R (nI a + 1) (nI m) b f nn g := fun hh => hR hlt2 _ _ _ _ _ _ ⟨nI_1 a, rfl, hs1, hf, B1, b1, b2, b3, fun σ S hi he ⟨x, hx, ex⟩ => by
          rcases Nat.lt_or_ge x a with q | q
          · exact b4 σ S hi he ⟨x, q, ex⟩
          · exact hh σ S hi he (by rw [← ex, show x = a by omega])⟩
        refine ⟨vp_in_nI (by omega) (by decide), ?_⟩
        rw [nI_clamp (by omega)]
        by_cases hn : ∃ i, i < m ∧ t i = a
        · obtain ⟨i, i1, i2⟩ := hn
          have e5 := k5 i i1
          rw [i2] at e5
          rw [e5]
          refine ⟨fun _ => next (fun σ S hi he e => ?_), fun q => absurd q (nI_neg (by omega))⟩
          have := he i i1
          rw [i2, e] at this
          omega
        · have hop : ∀ i, i < m → t i ≠ a := fun i hi e => hn ⟨i, hi, e⟩
          rw [k6 a hlt2 hop]
          refine ⟨fun q => absurd rfl q, fun _ => s_openTwin hN hlt2 htw (fun ⟨y, y1, y2, y3⟩ => y1' (next (fun σ S hi he e => ?_))) (fun hnt => y0' ?_)⟩
          · have hyop : ∀ i, i < m → t i ≠ y := fun i hi e2 => by
              have := k5 i hi
              rw [e2, y3] at this
              exact nI_neg (show i < 2 ^ 31 by omega) this.symm
            have hyN : y < N := by omega
            refine b4 (fun x => σ (sw a y x)) S (iso_comp hT (twin_iso hlt2 hyN y2) hi) (fun i hi2 => ?_) ⟨y, y1, ?_⟩
            · show σ (sw a y (t i)) = i
              rw [sw_out (hop i hi2) (hyop i hi2)]
              exact he i hi2
            · show σ (sw a y y) = m
              unfold sw
              rw [if_neg (by omega), if_pos rfl]
              exact e
          · refine s_give hN hs1 hlt2 hop (fun nm' tg' hs' _ => ?_)
            have hmp : c = 0 ∨ 0 < m := by omega
            have hfr2 : frOk T (m + 1) c (updN t m a) f := by
              rcases hmp with q | q
              · intro j hj
                omega
              · exact frOk_up (by omega) q (frOk_cong hfr hf)
            refine GT hlt (m + 1) _ nm' tg' f b B1 _ hs' (by omega) hfr2 b1 b2 (fun m' bc' fr' nm2 tg2 hp => ?_)
            obtain ⟨p1, p2, p3, B2, q1, q2, q3, q4⟩ := hp
            rw [p1]
            refine s_takeBack hN p2 hlt2 hop (fun nm3 hs3 => hR hlt2 _ _ _ _ _ _ ⟨nI_1 a, rfl, hs3, fun j hj => by rw [p3 j hj, hf j hj], B2, q1, q2, nlt_down b3 q3, fun σ S hi he ⟨x, hx, ex⟩ => ?_⟩)
            rcases Nat.lt_or_ge x a with q | q
            · exact nlt_down (b4 σ S hi he ⟨x, q, ex⟩) q3
            · have exa : x = a := by omega
              subst exa
              refine q4 σ S hi (fun i hi2 => ?_)
              unfold updN
              by_cases e : i = m
              · rw [if_pos e, ex, e]
              · rw [if_neg e]
                exact he i (by omega)
    · exact GT hlt m t nm tg fr bc B _ hs (by omega) hfr hB hmk (fun m' bc' fr' nm' tg' hp => hK _ _ _ _ _ hp)
    · have ec : c = N := by omega
      have em : m = N := by omega
      subst ec
      subst em
      obtain ⟨hpm, -⟩ := stN_full hs
      refine s_isLess ht hN hs hB (fun q => y1 (s_makeBest ht hN hs (fun bc' hbc => hK _ _ _ _ _ ⟨rfl, hs, fun _ _ => rfl, Bt m T t, hbc, ⟨_, Bt_iso hpm⟩, lt_asym q, fun σ S hi he w => ?_⟩))) (fun q => y0 (hK _ _ _ _ _ ⟨rfl, hs, fun _ _ => rfl, B, hB, hmk, lt_irr, fun σ S hi he w => ?_⟩))
      · exact lt_irr (lt_congL (Bt_ext hT hpm hi he) w)
      · exact q (lt_congL (Bt_ext hT hpm hi he) w)
/-- B is the least of all tables like T -/
def lstT (N : Nat) (T B : Nat → Nat → Nat) : Prop := mkd N T B ∧ ∀ σ S, iso N T S σ → ¬ ltT N S B
theorem lstT_one {N : Nat} {T B B' : Nat → Nat → Nat} (h : lstT N T B) (h' : lstT N T B') : ∀ a b, a < N → b < N → B a b = B' a b := by
  obtain ⟨⟨σ, h1⟩, h2⟩ := h
  obtain ⟨⟨σ', g1⟩, g2⟩ := h'
  exact min_one (g2 σ B h1) (h2 σ' B' g1)
theorem s_lessen {N : Nat} {T : Nat → Nat → Nat} {n0 bn : Int32} {bc fr nm tg tw cc : Nat → Int32} {K : Int32 → Int32 → Int32 → (Nat → Int32) → (Nat → Int32) → (Nat → Int32) → (Nat → Int32) → (Nat → Int32) → Prop} (ht : tab cc N T) (hN : N ≤ 8)
    (h : ∀ B n bc' fr' nm' tg' tw', lstT N T B → tab bc' N B → ((∀ a b, a < N → b < N → T a b = B a b) → K 0 n (nI N) bc' fr' nm' tg' tw') ∧ (¬ (∀ a b, a < N → b < N → T a b = B a b) → K 1 n (nI N) bc' fr' nm' tg' tw')) : pX4_lessen n0 bn bc fr nm tg tw (nI N) cc K := by
  refine s_copy ?_
  refine s_fill (by decide) ?_
  refine s_findTwins ht hN (fun tw' htw => ?_)
  refine s_nameColumn ht hN htw 10 0 (Nat.zero_le _) (by omega) 0 (fun _ => 0) _ tg fr _ T _ ⟨Nat.zero_le _, fun i hi => absurd hi (Nat.not_lt_zero _), fun i hi => absurd hi (Nat.not_lt_zero _), fun i j _ hj => absurd hj (Nat.not_lt_zero _), fun i hi => absurd hi (Nat.not_lt_zero _), fun x hx _ => fa_fill_in (by omega)⟩ (Nat.le_refl _) (fun j hj => absurd hj (Nat.not_lt_zero _)) (tab_cpy ht hN) ⟨_, iso_id N T⟩ (fun m' bc' fr' nm' tg' hp => ?_)
  obtain ⟨p1, p2, p3, B', q1, q2, q3, q4⟩ := hp
  have hl : lstT N T B' := ⟨q2, fun σ S hi => q4 σ S hi (fun i hi2 => absurd hi2 (Nat.not_lt_zero _))⟩
  obtain ⟨k0, k1⟩ := h B' m' bc' fr' nm' tg' tw' hl q1
  refine lpW1_for N (fun i x => x = nI i ∧ ∀ a b, a < i → b < N → T a b = B' a b) 0 (Nat.zero_le _) ⟨nI_0.symm, fun a b ha => absurd ha (Nat.not_lt_zero _)⟩ ?_
  rintro i hi x ⟨rfl, hI⟩ R hR
  refine pk_le N i (fun hle => ?_) (fun hlt => ?_)
  · have e : i = N := by omega
    subst e
    exact z1 (y1' (z0 (k0 hI)))
  · refine lpW1_for N (fun j x => x = nI j ∧ ∀ b, b < j → T i b = B' i b) 0 (Nat.zero_le _) ⟨nI_0.symm, fun b hb => absurd hb (Nat.not_lt_zero _)⟩ ?_
    rintro j hj x ⟨rfl, hJ⟩ R2 hR2
    refine pk_le N j (fun hle2 => ?_) (fun hlt2 => ?_)
    · have e : j = N := by omega
      subst e
      refine hR hlt _ ⟨nI_1 i, fun a b ha hb => ?_⟩
      rcases Nat.lt_or_ge a i with q | q
      · exact hI a b q hb
      · rw [show a = i by omega]
        exact hJ b hb
    · have b1 := (ht i j hlt hlt2).2
      have b2 := (q1 i j hlt hlt2).2
      refine t_turned ht hN hlt hlt2 (t_turned q1 hN hlt hlt2 ?_)
      refine pk_eq (T i j) (B' i j) (fun e => hR2 hlt2 _ ⟨nI_1 j, fun b hb => ?_⟩) (fun e => z0 (y0' (z1 (k1 (fun q => e (q i j hlt hlt2))))))
      rcases Nat.lt_or_ge b j with w | w
      · exact hJ b w
      · rw [show b = j by omega]
        exact e
