/-! Rows of numbers by a prime: what they make together, and at which places it begins. -/
def pme (p : Int) : Prop := 1 < p ∧ ∀ a b : Int, p ∣ a * b → p ∣ a ∨ p ∣ b
theorem dv_eq {p a b : Int} (e : a = b) (h : p ∣ a) : p ∣ b := e ▸ h
theorem dv_l {p a : Int} (b : Int) (h : p ∣ a) : p ∣ b * a := Int.dvd_trans h (Int.dvd_mul_left b a)
theorem dv_r {p a : Int} (b : Int) (h : p ∣ a) : p ∣ a * b := Int.dvd_trans h (Int.dvd_mul_right a b)
def Wk (p : Int) (U : Nat) (A : Nat → Nat → Int) : Nat → (Nat → Int) → Prop
  | 0, v => ∀ j, j < U → p ∣ v j
  | k + 1, v => ∃ t : Int, Wk p U A k (fun j => v j - t * A k j)
theorem Wk_cong {p : Int} {U : Nat} {A : Nat → Nat → Int} : ∀ {k : Nat} {v w : Nat → Int}, (∀ j, j < U → p ∣ v j - w j) → Wk p U A k v → Wk p U A k w
  | 0, v, w, h, hv => fun j hj => dv_eq (by omega) (Int.dvd_sub (hv j hj) (h j hj))
  | k + 1, v, w, h, ⟨t, ht⟩ => ⟨t, Wk_cong (fun j hj => dv_eq (by omega) (h j hj)) ht⟩
theorem Wk_eq {p : Int} {U : Nat} {A : Nat → Nat → Int} {k : Nat} {v w : Nat → Int} (h : ∀ j, j < U → v j = w j) (hv : Wk p U A k v) : Wk p U A k w :=
  Wk_cong (fun j hj => dv_eq (a := 0) (by rw [h j hj]; omega) (Int.dvd_zero p)) hv
theorem Wk_zero {p : Int} {U : Nat} {A : Nat → Nat → Int} : ∀ {k : Nat}, Wk p U A k (fun _ => 0)
  | 0 => fun _ _ => Int.dvd_zero p
  | k + 1 => ⟨0, Wk_eq (fun j _ => by simp) (Wk_zero (k := k))⟩
theorem Wk_add {p : Int} {U : Nat} {A : Nat → Nat → Int} : ∀ {k : Nat} {v w : Nat → Int}, Wk p U A k v → Wk p U A k w → Wk p U A k (fun j => v j + w j)
  | 0, v, w, hv, hw => fun j hj => Int.dvd_add (hv j hj) (hw j hj)
  | k + 1, v, w, ⟨t, ht⟩, ⟨s, hs⟩ => ⟨t + s, Wk_eq (fun j _ => by show (v j - t * A k j) + (w j - s * A k j) = (v j + w j) - (t + s) * A k j; rw [Int.add_mul]; omega) (Wk_add ht hs)⟩
theorem Wk_mul {p : Int} {U : Nat} {A : Nat → Nat → Int} (c : Int) : ∀ {k : Nat} {v : Nat → Int}, Wk p U A k v → Wk p U A k (fun j => c * v j)
  | 0, v, hv => fun j hj => dv_l c (hv j hj)
  | k + 1, v, ⟨t, ht⟩ => ⟨c * t, Wk_eq (fun j _ => by rw [Int.mul_sub, Int.mul_assoc]) (Wk_mul c ht)⟩
theorem Wk_sub {p : Int} {U : Nat} {A : Nat → Nat → Int} {k : Nat} {v w : Nat → Int} (c : Int) (hv : Wk p U A k v) (hw : Wk p U A k w) : Wk p U A k (fun j => v j - c * w j) :=
  Wk_eq (fun j _ => by rw [Int.neg_mul]; omega) (Wk_add hv (Wk_mul (-c) hw))
theorem Wk_up {p : Int} {U : Nat} {A : Nat → Nat → Int} {k : Nat} {v : Nat → Int} (h : Wk p U A k v) : Wk p U A (k + 1) v := ⟨0, Wk_eq (fun j _ => by simp) h⟩
theorem Wk_gen {p : Int} {U : Nat} {A : Nat → Nat → Int} {e : Nat} : ∀ {k : Nat}, e < k → Wk p U A k (A e)
  | 0, h => absurd h (Nat.not_lt_zero _)
  | k + 1, h => by
    rcases Nat.lt_or_ge e k with q | q
    · exact Wk_up (Wk_gen q)
    · have e' : e = k := by omega
      subst e'
      exact ⟨1, Wk_eq (fun j _ => by simp) Wk_zero⟩
theorem Wk_in {p : Int} {U E : Nat} {A B : Nat → Nat → Int} : ∀ {k : Nat} {v : Nat → Int}, (∀ e, e < k → Wk p U A E (B e)) → Wk p U B k v → Wk p U A E v
  | 0, v, _, hv => Wk_cong (fun j hj => dv_eq (a := 0 - v j) rfl (Int.dvd_sub (Int.dvd_zero p) (hv j hj))) Wk_zero
  | k + 1, v, h, ⟨t, ht⟩ => Wk_eq (fun j _ => by show v j - t * B k j + t * B k j = v j; omega) (Wk_add (Wk_in (fun e he => h e (by omega)) ht) (Wk_mul t (h k (by omega))))
/-- the row begins at j -/
def ldg (p : Int) (U : Nat) (v : Nat → Int) (j : Nat) : Prop := j < U ∧ ¬ p ∣ v j ∧ ∀ i, i < j → p ∣ v i
theorem ldg_cong {p : Int} {U : Nat} {v w : Nat → Int} {j : Nat} (h : ∀ i, i ≤ j → p ∣ v i - w i) (hv : ldg p U v j) : ldg p U w j :=
  ⟨hv.1, fun q => hv.2.1 (dv_eq (by omega) (Int.dvd_add (h j (Nat.le_refl _)) q)), fun i hi => dv_eq (by omega) (Int.dvd_sub (hv.2.2 i hi) (h i (by omega)))⟩
theorem lead_add {p : Int} {U k l : Nat} {A : Nat → Nat → Int} {L : Nat → Prop} {r : Nat → Int} (hp : pme p) (hL : ∀ v j, Wk p U A k v → ldg p U v j → L j) (hr : ldg p U r l) (hl : ¬ L l) (hA : Wk p U A k (fun j => A k j - r j)) : ∀ v j, Wk p U A (k + 1) v → ldg p U v j → L j ∨ j = l := by
  rintro v j ⟨t, ht⟩ hv
  have w0 : Wk p U A k (fun j => v j - t * r j) := Wk_eq (fun j _ => by show v j - t * A k j + t * (A k j - r j) = v j - t * r j; rw [Int.mul_sub]; omega) (Wk_add ht (Wk_mul t hA))
  by_cases hdt : p ∣ t
  · exact Or.inl (hL _ j w0 (ldg_cong (fun i _ => dv_eq (a := t * r i) (by omega) (dv_r _ hdt)) hv))
  · rcases Nat.lt_trichotomy j l with q | q | q
    · exact Or.inl (hL _ j w0 (ldg_cong (fun i hi => dv_eq (a := t * r i) (by omega) (dv_l t (hr.2.2 i (by omega)))) hv))
    · exact Or.inr q
    · refine absurd (hL _ l w0 ⟨hr.1, fun z => ?_, fun i hi => ?_⟩) hl
      · have h1 : p ∣ t * r l := dv_eq (by show v l - (v l - t * r l) = t * r l; omega) (Int.dvd_sub (hv.2.2 l q) z)
        exact (hp.2 _ _ h1).elim hdt hr.2.1
      · exact Int.dvd_sub (hv.2.2 i (by omega)) (dv_l t (hr.2.2 i hi))
theorem lead_same {p : Int} {U k : Nat} {A : Nat → Nat → Int} {L : Nat → Prop} (hL : ∀ v j, Wk p U A k v → ldg p U v j → L j) (hA : Wk p U A k (A k)) : ∀ v j, Wk p U A (k + 1) v → ldg p U v j → L j := by
  rintro v j ⟨t, ht⟩ hv
  exact hL v j (Wk_eq (fun j _ => by show v j - t * A k j + t * A k j = v j; omega) (Wk_add ht (Wk_mul t hA))) hv
/-- the places where something begins -/
def LL (p : Int) (U : Nat) (A : Nat → Nat → Int) (k j : Nat) : Prop := ∃ v, Wk p U A k v ∧ ldg p U v j
/-! the same rows, with places left out where all are nothing -/
theorem Wk_skip {p : Int} {U U' : Nat} {A : Nat → Nat → Int} {ρ : Nat → Nat} (hρ : ∀ u, u < U' → ρ u < U) : ∀ {k : Nat} {v : Nat → Int}, (∀ e, e < k → ∀ j, j < U → (∀ u, u < U' → ρ u ≠ j) → A e j = 0) →
    (Wk p U A k v ↔ (∀ j, j < U → (∀ u, u < U' → ρ u ≠ j) → p ∣ v j) ∧ Wk p U' (fun e u => A e (ρ u)) k (fun u => v (ρ u)))
  | 0, v, _ => by
    constructor
    · intro h
      exact ⟨fun j hj _ => h j hj, fun u hu => h _ (hρ u hu)⟩
    · rintro ⟨h1, h2⟩ j hj
      by_cases q : ∃ u, u < U' ∧ ρ u = j
      · obtain ⟨u, hu, e⟩ := q
        have := h2 u hu
        rw [← e]
        exact this
      · exact h1 j hj (fun u hu e => q ⟨u, hu, e⟩)
  | k + 1, v, hA => by
    constructor
    · rintro ⟨t, ht⟩
      obtain ⟨h1, h2⟩ := (Wk_skip hρ (fun e he => hA e (by omega))).mp ht
      refine ⟨fun j hj hn => ?_, t, h2⟩
      have := h1 j hj hn
      rw [hA k (by omega) j hj hn] at this
      simpa using this
    · rintro ⟨h1, t, ht⟩
      refine ⟨t, (Wk_skip hρ (fun e he => hA e (by omega))).mpr ⟨fun j hj hn => ?_, ht⟩⟩
      rw [hA k (by omega) j hj hn]
      simpa using h1 j hj hn
theorem LL_skip {p : Int} {U U' k : Nat} {A : Nat → Nat → Int} {ρ : Nat → Nat} (hρ : ∀ u, u < U' → ρ u < U) (hm : ∀ u w, u < w → w < U' → ρ u < ρ w) (hA : ∀ e, e < k → ∀ j, j < U → (∀ u, u < U' → ρ u ≠ j) → A e j = 0) :
    (∀ u, u < U' → (LL p U' (fun e u => A e (ρ u)) k u ↔ LL p U A k (ρ u))) ∧ ∀ j, LL p U A k j → ∃ u, u < U' ∧ ρ u = j := by
  have hinj : ∀ u w, u < U' → w < U' → ρ u = ρ w → u = w := by
    intro u w hu hw e
    rcases Nat.lt_trichotomy u w with q | q | q
    · have := hm u w q hw
      omega
    · exact q
    · have := hm w u q hu
      omega
  have hB : ∀ j, LL p U A k j → ∃ u, u < U' ∧ ρ u = j := by
    rintro j ⟨v, hv, h1, h2, h3⟩
    refine Classical.byContradiction (fun q => h2 ((Wk_skip hρ hA).mp hv |>.1 j h1 (fun u hu e => q ⟨u, hu, e⟩)))
  refine ⟨fun u hu => ⟨?_, ?_⟩, hB⟩
  · rintro ⟨v, hv, h1, h2, h3⟩
    have key : ∀ w, w < U' → lst ρ (ρ w) U' = w := fun w hw => by
      obtain ⟨q1, q2⟩ := lst_ok (f := ρ) (v := ρ w) (n := U') ⟨w, hw, rfl⟩
      exact hinj _ _ q1 hw q2
    refine ⟨fun j => if ρ (lst ρ j U') = j then v (lst ρ j U') else 0, ?_, hρ u hu, ?_, fun i hi => ?_⟩
    · refine (Wk_skip hρ hA).mpr ⟨fun j hj hn => ?_, Wk_eq (fun w hw => ?_) hv⟩
      · show p ∣ if ρ (lst ρ j U') = j then v (lst ρ j U') else 0
        by_cases e : ρ (lst ρ j U') = j
        · rcases Nat.lt_or_ge (lst ρ j U') U' with q | q
          · exact absurd e (hn _ q)
          · exfalso
            have hz : lst ρ j U' = 0 := lst_none (fun i hi => hn i hi)
            rw [hz] at e q
            omega
        · rw [if_neg e]
          exact Int.dvd_zero p
      · show v w = if ρ (lst ρ (ρ w) U') = ρ w then v (lst ρ (ρ w) U') else 0
        rw [key w hw, if_pos rfl]
    · show ¬ p ∣ if ρ (lst ρ (ρ u) U') = ρ u then v (lst ρ (ρ u) U') else 0
      rw [key u hu, if_pos rfl]
      exact h2
    · show p ∣ if ρ (lst ρ i U') = i then v (lst ρ i U') else 0
      by_cases e : ρ (lst ρ i U') = i
      · rw [if_pos e]
        have hlt : lst ρ i U' < u := by
          have hlu : lst ρ i U' < U' ∨ lst ρ i U' = 0 := by
            by_cases q : ∃ b, b < U' ∧ ρ b = i
            · exact Or.inl (lst_ok q).1
            · exact Or.inr (lst_none (fun b hb e => q ⟨b, hb, e⟩))
          have hlu2 : lst ρ i U' < U' := by
            rcases hlu with q | q <;> omega
          rcases Nat.lt_trichotomy (lst ρ i U') u with q | q | q
          · exact q
          · rw [q] at e
            omega
          · have := hm _ _ q hlu2
            omega
        exact h3 _ hlt
      · rw [if_neg e]
        exact Int.dvd_zero p
  · rintro ⟨v, hv, h1, h2, h3⟩
    exact ⟨_, ((Wk_skip hρ hA).mp hv).2, hu, h2, fun i hi => h3 _ (hm i u hi hu)⟩
/-! numbers by p -/
theorem mod_dv {p : Nat} (x : Int) : (p : Int) ∣ x - x % (p : Int) := by
  have := Int.mul_ediv_add_emod x p
  exact ⟨x / p, by omega⟩
theorem dv_small {p a : Nat} (h : a < p) : (p : Int) ∣ (a : Int) ↔ a = 0 := by
  constructor
  · intro q
    have q2 : p ∣ a := Int.natCast_dvd_natCast.mp q
    exact Nat.eq_zero_of_dvd_of_lt q2 h
  · intro q
    rw [q]
    exact Int.dvd_zero _
def isP (p : Nat) : Prop := p = 2 ∨ p = 3 ∨ p = 5 ∨ p = 7
theorem isP_nz {p : Nat} (h : isP p) : ∀ a, a < p → ∀ b, b < p → a * b % p = 0 → a = 0 ∨ b = 0 := by
  rcases h with rfl | rfl | rfl | rfl <;> decide
theorem isP_inv {p : Nat} (h : isP p) : ∀ a, a < p → a ≠ 0 → ∃ b, b < p ∧ a * b % p = 1 := by
  rcases h with rfl | rfl | rfl | rfl <;> decide
theorem isP_lt {p : Nat} (h : isP p) : 2 ≤ p ∧ p < 8 := by
  rcases h with h | h | h | h <;> omega
theorem isP_pme {p : Nat} (h : isP p) : pme (p : Int) := by
  obtain ⟨h2, h8⟩ := isP_lt h
  refine ⟨by omega, fun a b hab => ?_⟩
  have ha0 := Int.emod_nonneg a (show (p : Int) ≠ 0 by omega)
  have ha1 := Int.emod_lt_of_pos a (show (0 : Int) < p by omega)
  have hb0 := Int.emod_nonneg b (show (p : Int) ≠ 0 by omega)
  have hb1 := Int.emod_lt_of_pos b (show (0 : Int) < p by omega)
  obtain ⟨x, hx⟩ := Int.eq_ofNat_of_zero_le ha0
  obtain ⟨y, hy⟩ := Int.eq_ofNat_of_zero_le hb0
  have e : (p : Int) ∣ ((x * y : Nat) : Int) := by
    have h1 : (a * b) % (p : Int) = 0 := Int.emod_eq_zero_of_dvd hab
    rw [Int.mul_emod, hx, hy] at h1
    have h2 := Int.dvd_of_emod_eq_zero h1
    exact h2
  have e2 : p ∣ x * y := Int.natCast_dvd_natCast.mp e
  have e3 := isP_nz h x (by omega) y (by omega) (Nat.mod_eq_zero_of_dvd e2)
  rcases e3 with e3 | e3
  · left
    rw [e3] at hx
    exact Int.dvd_of_emod_eq_zero hx
  · right
    rw [e3] at hy
    exact Int.dvd_of_emod_eq_zero hy
