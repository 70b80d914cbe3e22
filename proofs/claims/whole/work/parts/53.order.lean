/-! The order of tables, row by row. -/
def ltT (N : Nat) (S S' : Nat → Nat → Nat) : Prop := ∃ i j, i < N ∧ j < N ∧ S i j < S' i j ∧ ∀ a b, a < N → b < N → (a < i ∨ (a = i ∧ b < j)) → S a b = S' a b
theorem lt_irr {N : Nat} {S : Nat → Nat → Nat} : ¬ ltT N S S := fun ⟨_, _, _, _, h, _⟩ => Nat.lt_irrefl _ h
theorem lt_congL {N : Nat} {S Z S' : Nat → Nat → Nat} (e : ∀ a b, a < N → b < N → S a b = Z a b) (h : ltT N S S') : ltT N Z S' := by
  obtain ⟨i, j, hi, hj, h1, h2⟩ := h
  exact ⟨i, j, hi, hj, by rw [← e i j hi hj]; exact h1, fun a b ha hb q => by rw [← e a b ha hb]; exact h2 a b ha hb q⟩
theorem lt_congR {N : Nat} {S Z S' : Nat → Nat → Nat} (e : ∀ a b, a < N → b < N → S' a b = Z a b) (h : ltT N S S') : ltT N S Z := by
  obtain ⟨i, j, hi, hj, h1, h2⟩ := h
  exact ⟨i, j, hi, hj, by rw [← e i j hi hj]; exact h1, fun a b ha hb q => by rw [← e a b ha hb]; exact h2 a b ha hb q⟩
theorem lt_asym {N : Nat} {S S' : Nat → Nat → Nat} (h : ltT N S S') : ¬ ltT N S' S := by
  rintro ⟨k, l, hk, hl, g1, g2⟩
  obtain ⟨i, j, hi, hj, h1, h2⟩ := h
  by_cases q : i < k ∨ (i = k ∧ j < l)
  · have := g2 i j hi hj q
    omega
  · by_cases q2 : k < i ∨ (k = i ∧ l < j)
    · have := h2 k l hk hl q2
      omega
    · have e1 : i = k := by omega
      have e2 : j = l := by omega
      subst e1 e2
      omega
theorem lt_trans' {N : Nat} {S Z S' : Nat → Nat → Nat} (h : ltT N S Z) (g : ltT N Z S') : ltT N S S' := by
  obtain ⟨i, j, hi, hj, h1, h2⟩ := h
  obtain ⟨k, l, hk, hl, g1, g2⟩ := g
  by_cases q : i < k ∨ (i = k ∧ j < l)
  · refine ⟨i, j, hi, hj, ?_, fun a b ha hb w => ?_⟩
    · rw [← g2 i j hi hj q]
      exact h1
    · rw [h2 a b ha hb w]
      exact g2 a b ha hb (by omega)
  · by_cases q2 : k < i ∨ (k = i ∧ l < j)
    · refine ⟨k, l, hk, hl, ?_, fun a b ha hb w => ?_⟩
      · rw [h2 k l hk hl q2]
        exact g1
      · rw [h2 a b ha hb (by omega)]
        exact g2 a b ha hb w
    · have e1 : i = k := by omega
      have e2 : j = l := by omega
      subst e1 e2
      exact ⟨i, j, hi, hj, by omega, fun a b ha hb w => by rw [h2 a b ha hb w]; exact g2 a b ha hb w⟩
theorem lt_tri (N : Nat) (S S' : Nat → Nat → Nat) : (∀ a b, a < N → b < N → S a b = S' a b) ∨ ltT N S S' ∨ ltT N S' S := by
  by_cases h : ∀ a b, a < N → b < N → S a b = S' a b
  · exact Or.inl h
  · right
    have hex : ∃ i, i < N ∧ ∃ j, j < N ∧ S i j ≠ S' i j := by
      refine Classical.byContradiction (fun q => h (fun a b ha hb => ?_))
      exact Classical.byContradiction (fun w => q ⟨a, ha, b, hb, w⟩)
    obtain ⟨i, ⟨hi, hj0⟩, i2⟩ := pk_least _ hex
    obtain ⟨j, ⟨hj, hne⟩, j2⟩ := pk_least _ hj0
    have eq : ∀ a b, a < N → b < N → (a < i ∨ (a = i ∧ b < j)) → S a b = S' a b := by
      intro a b ha hb q
      refine Classical.byContradiction (fun w => ?_)
      rcases q with q | ⟨q, q2⟩
      · exact i2 a q ⟨ha, b, hb, w⟩
      · subst q
        exact j2 b q2 ⟨hb, w⟩
    rcases Nat.lt_or_ge (S i j) (S' i j) with q | q
    · exact Or.inl ⟨i, j, hi, hj, q, eq⟩
    · exact Or.inr ⟨i, j, hi, hj, by omega, fun a b ha hb w => (eq a b ha hb w).symm⟩
/-- what isn't below B isn't below what is at most B -/
theorem nlt_down {N : Nat} {S B B' : Nat → Nat → Nat} (h : ¬ ltT N S B) (hb : ¬ ltT N B B') : ¬ ltT N S B' := by
  intro q
  rcases lt_tri N B B' with e | e | e
  · exact h (lt_congR (fun a b ha hb => (e a b ha hb).symm) q)
  · exact hb e
  · exact h (lt_trans' q e)
theorem min_one {N : Nat} {B B' : Nat → Nat → Nat} (h : ¬ ltT N B B') (h' : ¬ ltT N B' B) : ∀ a b, a < N → b < N → B a b = B' a b := by
  rcases lt_tri N B B' with e | e | e
  · exact e
  · exact absurd e h
  · exact absurd e h'
/-! things changed for one another -/
def sw (a b c : Nat) : Nat := if c = a then b else if c = b then a else c
theorem sw_sw (a b c : Nat) : sw a b (sw a b c) = c := by
  unfold sw
  by_cases h1 : c = a
  · rw [if_pos h1]
    by_cases h2 : b = a
    · rw [if_pos h2]
      omega
    · rw [if_neg h2, if_pos rfl, h1]
  · rw [if_neg h1]
    by_cases h2 : c = b
    · rw [if_pos h2, if_pos rfl, h2]
    · rw [if_neg h2, if_neg h1, if_neg h2]
theorem sw_lt {N a b c : Nat} (ha : a < N) (hb : b < N) (hc : c < N) : sw a b c < N := by
  unfold sw
  split
  · exact hb
  · split
    · exact ha
    · exact hc
theorem sw_pm {N a b : Nat} (ha : a < N) (hb : b < N) : pm N (sw a b) :=
  pm_ofF (fun i hi => sw_lt ha hb hi) (fun i j _ _ e => by rw [← sw_sw a b i, e, sw_sw])
theorem sw_out {a b c : Nat} (h1 : c ≠ a) (h2 : c ≠ b) : sw a b c = c := by
  unfold sw
  rw [if_neg h1, if_neg h2]
/-- the table with the names u and w changed -/
theorem sw_iso {N u w : Nat} {S : Nat → Nat → Nat} (hu : u < N) (hw : w < N) : iso N S (fun i j => sw u w (S (sw u w i) (sw u w j))) (sw u w) :=
  ⟨sw_pm hu hw, fun a b _ _ => by show sw u w (S a b) = sw u w (S (sw u w (sw u w a)) (sw u w (sw u w b))); rw [sw_sw, sw_sw]⟩
/-! what is named so far -/
def stN (N m : Nat) (t : Nat → Nat) (nm tg : Nat → Int32) : Prop := m ≤ N ∧ lbl tg m t ∧ (∀ i, i < m → t i < N) ∧ (∀ i j, i < j → j < m → t i ≠ t j) ∧ (∀ i, i < m → nm (t i) = nI i) ∧ ∀ x, x < N → (∀ i, i < m → t i ≠ x) → nm x = -1
theorem stN_room {N m x : Nat} {t : Nat → Nat} {nm tg : Nat → Int32} (h : stN N m t nm tg) (hx : x < N) (hn : ∀ i, i < m → t i ≠ x) : m < N := by
  obtain ⟨h1, h2, h3, h4, h5, h6⟩ := h
  have := fb_holes N (m + 1) (updN t m x) (fun i hi => by
    unfold updN
    by_cases e : i = m
    · rw [if_pos e]
      exact hx
    · rw [if_neg e]
      exact h3 i (by omega)) (fun i j hij hj => by
    unfold updN
    rw [if_neg (show ¬ i = m by omega)]
    by_cases e : j = m
    · rw [if_pos e]
      exact hn i (by omega)
    · rw [if_neg e]
      exact h4 i j hij (by omega))
  omega
theorem stN_give {N m x : Nat} {t : Nat → Nat} {nm tg : Nat → Int32} (h : stN N m t nm tg) (hx : x < N) (hn : ∀ i, i < m → t i ≠ x) : stN N (m + 1) (updN t m x) (upd nm x (nI m)) (upd tg m (nI x)) := by
  have hr := stN_room h hx hn
  obtain ⟨h1, h2, h3, h4, h5, h6⟩ := h
  refine ⟨hr, lbl_updA h2, fun i hi => ?_, fun i j hij hj => ?_, fun i hi => ?_, fun y hy hyn => ?_⟩
  · unfold updN
    by_cases e : i = m
    · rw [if_pos e]
      exact hx
    · rw [if_neg e]
      exact h3 i (by omega)
  · unfold updN
    rw [if_neg (show ¬ i = m by omega)]
    by_cases e : j = m
    · rw [if_pos e]
      exact hn i (by omega)
    · rw [if_neg e]
      exact h4 i j hij (by omega)
  · unfold updN
    by_cases e : i = m
    · rw [if_pos e, pk_us, e]
    · rw [if_neg e, pk_un (hn i (by omega))]
      exact h5 i (by omega)
  · have e1 : y ≠ x := fun z => hyn m (by omega) (by unfold updN; rw [if_pos rfl, z])
    rw [pk_un e1]
    refine h6 y hy (fun i hi z => hyn i (by omega) ?_)
    unfold updN
    rw [if_neg (by omega)]
    exact z
theorem stN_back {N m x : Nat} {t : Nat → Nat} {nm tg : Nat → Int32} (h : stN N (m + 1) (updN t m x) nm tg) (hx : x < N) (hn : ∀ i, i < m → t i ≠ x) : stN N m t (upd nm x (-1)) tg := by
  obtain ⟨h1, h2, h3, h4, h5, h6⟩ := h
  have et : ∀ i, i < m → updN t m x i = t i := fun i hi => by
    unfold updN
    rw [if_neg (by omega)]
  refine ⟨by omega, lbl_lo h2, fun i hi => ?_, fun i j hij hj => ?_, fun i hi => ?_, fun y hy hyn => ?_⟩
  · rw [← et i hi]
    exact h3 i (by omega)
  · rw [← et i (by omega), ← et j hj]
    exact h4 i j hij (by omega)
  · rw [pk_un (hn i hi)]
    have := h5 i (by omega)
    rw [et i hi] at this
    exact this
  · by_cases e : y = x
    · rw [e, pk_us]
    · rw [pk_un e]
      refine h6 y hy (fun i hi z => ?_)
      by_cases q : i = m
      · rw [q] at z
        unfold updN at z
        rw [if_pos rfl] at z
        exact e z.symm
      · rw [et i (by omega)] at z
        exact hyn i (by omega) z
theorem s_give {N m x : Nat} {t : Nat → Nat} {nm tg : Nat → Int32} {K : Int32 → (Nat → Int32) → (Nat → Int32) → Prop} (hN : N ≤ 8) (h : stN N m t nm tg) (hx : x < N) (hn : ∀ i, i < m → t i ≠ x) (hk : ∀ nm' tg', stN N (m + 1) (updN t m x) nm' tg' → nm' x = nI m → K (nI (m + 1)) nm' tg') : pX4_give (nI m) nm tg (nI x) K := by
  have hr := stN_room h hx hn
  refine ⟨vp_in_nI (by omega) (by decide), vp_in_nI (by omega) (by decide), ?_⟩
  rw [nI_1, nI_clamp (by omega), nI_clamp (by omega)]
  exact hk _ _ (stN_give h hx hn) pk_us
theorem s_takeBack {N m x : Nat} {t : Nat → Nat} {nm tg : Nat → Int32} {K : Int32 → (Nat → Int32) → Prop} (hN : N ≤ 8) (h : stN N (m + 1) (updN t m x) nm tg) (hx : x < N) (hn : ∀ i, i < m → t i ≠ x) (hk : ∀ nm', stN N m t nm' tg → K (nI m) nm') : pX4_takeBack (nI (m + 1)) nm (nI x) K := by
  refine ⟨vp_in_nI (by omega) (by decide), ?_⟩
  rw [nI_pred, nI_clamp (by omega)]
  exact hk _ (stN_back h hx hn)
/-- f has the names that were given -/
def extN (m : Nat) (t σ : Nat → Nat) : Prop := ∀ i, i < m → σ (t i) = i
def mkd (N : Nat) (T B : Nat → Nat → Nat) : Prop := ∃ σ, iso N T B σ
def cov (N : Nat) (T : Nat → Nat → Nat) (m : Nat) (t : Nat → Nat) (B : Nat → Nat → Nat) : Prop := ∀ σ S, iso N T S σ → extN m t σ → ¬ ltT N S B
def frOk (T : Nat → Nat → Nat) (m c : Nat) (t : Nat → Nat) (fr : Nat → Int32) : Prop := ∀ j, j < c → ∃ i, i < m ∧ T (t 0) (t j) = t i ∧ fr j = nI i
theorem row_ext {N : Nat} {T S : Nat → Nat → Nat} {m j i : Nat} {t σ : Nat → Nat} (hi : iso N T S σ) (he : extN m t σ) (ht : ∀ i, i < m → t i < N) (hj : j < m) (h0 : 0 < m) (hii : i < m) (e : T (t 0) (t j) = t i) : S 0 j = i := by
  have h := hi.2 (t 0) (t j) (ht 0 h0) (ht j hj)
  rw [e, he i hii, he 0 h0, he j hj] at h
  exact h.symm
/-- another name than the next one makes the table greater -/
theorem exchange {N : Nat} {T B : Nat → Nat → Nat} {m c : Nat} {t : Nat → Nat} {fr : Nat → Int32} (ht : ∀ i, i < m → t i < N) (hT : ∀ a b, a < N → b < N → T a b < N) (hc : c < m) (hm : m < N) (hfr : frOk T m c t fr) (hv : ∀ i, i < m → t i ≠ T (t 0) (t c)) (h : cov N T (m + 1) (updN t m (T (t 0) (t c))) B) : cov N T m t B := by
  intro σ S hi he
  have hvN : T (t 0) (t c) < N := hT _ _ (ht 0 (by omega)) (ht c hc)
  by_cases q : σ (T (t 0) (t c)) = m
  · refine h σ S hi (fun i hi2 => ?_)
    unfold updN
    by_cases e : i = m
    · rw [if_pos e, q, e]
    · rw [if_neg e]
      exact he i (by omega)
  · have hw := hi.1.1 _ hvN
    have hwm : m < σ (T (t 0) (t c)) := by
      rcases Nat.lt_or_ge (σ (T (t 0) (t c))) m with z | z
      · have e := he _ z
        have := pm_inj hi.1 (ht _ z) hvN e
        exact absurd this (hv _ z)
      · omega
    have hs := sw_iso (S := S) hm hw
    have hcomp := iso_comp hT hi hs
    have hlt : ltT N (fun i j => sw m (σ (T (t 0) (t c))) (S (sw m (σ (T (t 0) (t c))) i) (sw m (σ (T (t 0) (t c))) j))) S := by
      have h0 : sw m (σ (T (t 0) (t c))) 0 = 0 := sw_out (by omega) (by omega)
      refine ⟨0, c, by omega, by omega, ?_, fun a b ha hb w => ?_⟩
      · show sw m (σ (T (t 0) (t c))) (S (sw m (σ (T (t 0) (t c))) 0) (sw m (σ (T (t 0) (t c))) c)) < S 0 c
        have hSc : S 0 c = σ (T (t 0) (t c)) := by
          have e := hi.2 (t 0) (t c) (ht 0 (by omega)) (ht c hc)
          rw [he 0 (by omega), he c hc] at e
          exact e.symm
        rw [h0, sw_out (c := c) (by omega) (by omega), hSc]
        have : sw m (σ (T (t 0) (t c))) (σ (T (t 0) (t c))) = m := by
          unfold sw
          rw [if_neg q, if_pos rfl]
        rw [this]
        exact hwm
      · have ea : a = 0 := by omega
        have hbc : b < c := by omega
        subst ea
        obtain ⟨i, i1, i2, -⟩ := hfr b hbc
        have e := row_ext hi he ht (by omega) (by omega) i1 i2
        show sw m (σ (T (t 0) (t c))) (S (sw m (σ (T (t 0) (t c))) 0) (sw m (σ (T (t 0) (t c))) b)) = S 0 b
        rw [h0, sw_out (c := b) (by omega) (by omega), e]
        exact sw_out (by omega) (by omega)
    have hn := h _ _ hcomp (fun i hi2 => ?_)
    · exact fun w => hn (lt_trans' hlt w)
    · show sw m (σ (T (t 0) (t c))) (σ (updN t m (T (t 0) (t c)) i)) = i
      unfold updN
      by_cases e : i = m
      · rw [if_pos e]
        unfold sw
        rw [if_neg q, if_pos rfl, e]
      · rw [if_neg e, he i (by omega)]
        exact sw_out e (by omega)
