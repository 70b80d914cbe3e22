/-! The model's elimination, column by column. -/
def cont (E : Nat) (c : Nat → Int32) (y : Nat → Nat → Nat) : Prop := ∀ e j, e < E → j < 64 → c (64 * e + j) = nI (y e j)
def updM (y : Nat → Nat → Nat) (e j v : Nat) : Nat → Nat → Nat := fun e' j' => if e' = e ∧ j' = j then v else y e' j'
theorem cont_upd {E : Nat} {c : Nat → Int32} {y : Nat → Nat → Nat} (h : cont E c y) (e j v : Nat) (hj : j < 64) : cont E (upd c (64 * e + j) (nI v)) (updM y e j v) := by
  intro e' j' he' hj'
  unfold updM
  by_cases q : e' = e ∧ j' = j
  · rw [if_pos q, q.1, q.2, pk_us]
  · rw [if_neg q, pk_un (by omega)]
    exact h e' j' he' hj'
theorem cont_cong {E : Nat} {c : Nat → Int32} {y z : Nat → Nat → Nat} (h : cont E c y) (e : ∀ e j, e < E → j < 64 → y e j = z e j) : cont E c z := fun a b ha hb => by rw [h a b ha hb, e a b ha hb]
theorem toNat_mod {p : Nat} (x : Int) (hp : 0 < p) : (x % (p : Int)).toNat < p ∧ (p : Int) ∣ x - ((x % (p : Int)).toNat : Int) := by
  have h1 := Int.emod_nonneg x (show (p : Int) ≠ 0 by omega)
  have h2 := Int.emod_lt_of_pos x (show (0 : Int) < p by omega)
  have h3 := mod_dv (p := p) x
  exact ⟨by omega, dv_eq (by omega) h3⟩
theorem s_adds {p E e a b : Nat} {c : Nat → Int32} {y : Nat → Nat → Nat} {v : Nat → Int} {t : Int} {x1 x2 x3 x4 : Int32} {K : (Nat → Int32) → Prop} (hp : 2 ≤ p) (hp8 : p < 8) (hE : E ≤ 512) (he : e < E) (ha : a < 8) (hb : b < 8) (e1 : x1 = nI e) (e2 : x2 = nI a) (e3 : x3 = nI b) (e4 : x4.toInt = t) (ht : t = 1 ∨ t = -1) (hc : cont E c y) (hr : res p 64 (y e) v)
    (h : ∀ c' y', cont E c' y' → (∀ e', e' ≠ e → y' e' = y e') → res p 64 (y' e) (fun u => v u + t * dl (8 * a + b) u) → K c') : pX11_adds c x1 x2 x3 x4 (nI p) K := by
  subst e1 e2 e3
  have hj : 8 * a + b < 64 := by omega
  have ei : 64 * nI e + 8 * nI a + nI b = nI (64 * e + (8 * a + b)) := by
    rw [show (64 : Int32) = nI 64 from rfl, show (8 : Int32) = nI 8 from rfl, pk_mul, pk_mul, nI_add, nI_add, Nat.add_assoc]
  obtain ⟨r1, r2⟩ := hr _ hj
  unfold pX11_adds
  rw [ei, nI_clamp (by omega), hc e _ he hj]
  have et : (nI (y e (8 * a + b)) + x4).toInt = (y e (8 * a + b) : Int) + t := by
    have hn : (nI (y e (8 * a + b))).toInt = (y e (8 * a + b) : Int) := nI_toInt (by omega)
    rw [fb_addI (by rw [hn, e4]; omega) (by rw [hn, e4]; omega), hn, e4]
  refine ⟨vp_in_nI (by omega) (by decide), s_floorMod (by rw [et]; omega) (by rw [et]; omega) (by omega) (by omega) ⟨vp_in_nI (by omega) (by decide), ?_⟩⟩
  rw [et]
  obtain ⟨m1, m2⟩ := toNat_mod (p := p) ((y e (8 * a + b) : Int) + t) (by omega)
  refine h _ _ (cont_upd hc e (8 * a + b) _ hj) (fun e' he' => funext fun j' => ?_) (fun u hu => ?_)
  · unfold updM
    rw [if_neg (fun q => he' q.1)]
  · obtain ⟨u1, u2⟩ := hr u hu
    unfold updM dl
    by_cases q : u = 8 * a + b
    · rw [if_pos ⟨rfl, q⟩]
      refine ⟨m1, ?_⟩
      show (p : Int) ∣ _ - (v u + t * if u = 8 * a + b then 1 else 0)
      rw [if_pos q, Int.mul_one, q]
      refine dv_eq ?_ (Int.dvd_sub r2 m2)
      omega
    · rw [if_neg (fun z => q z.2)]
      refine ⟨u1, ?_⟩
      show (p : Int) ∣ _ - (v u + t * if u = 8 * a + b then 1 else 0)
      rw [if_neg q, Int.mul_zero, Int.add_zero]
      exact u2
/-- what stands before column col, with dn pivots -/
def rkI (p E : Nat) (A : Nat → Nat → Int) (col dn : Nat) (c : Nat → Int32) (y : Nat → Nat → Nat) : Prop := cont E c y ∧ (∀ e, e < E → ∀ j, j < 64 → y e j < p) ∧ dn ≤ E ∧
  (∀ e, e < E → Wk p 64 A E (fun j => (y e j : Int))) ∧ (∀ e, e < E → Wk p 64 (fun e j => (y e j : Int)) E (A e)) ∧
  (∃ l : Nat → Nat, (∀ i, i < dn → ldg p 64 (fun j => (y i j : Int)) (l i) ∧ l i < col) ∧ ∀ i k, i < k → k < dn → l i < l k) ∧
  ∀ e, dn ≤ e → e < E → ∀ j, j < col → y e j = 0
def y1M (p : Nat) (y : Nat → Nat → Nat) (dn r f : Nat) (e j : Nat) : Nat := if e = dn then y r j * f % p else if e = r then y dn j else y e j
def y2M (p : Nat) (y : Nat → Nat → Nat) (dn r f col : Nat) (e j : Nat) : Nat := if e ≤ dn then y1M p y dn r f e j else (((y1M p y dn r f e j : Int) - (y1M p y dn r f e col : Int) * (y1M p y dn r f dn j : Int)) % (p : Int)).toNat
theorem rk_next {p E : Nat} {A : Nat → Nat → Int} {col dn r f : Nat} {c c' : Nat → Int32} {y : Nat → Nat → Nat} (hp : isP p) (hcol : col < 64) (h : rkI p E A col dn c y) (hr1 : dn ≤ r) (hr2 : r < E) (hf : f * y r col % p = 1) (hc : cont E c' (y2M p y dn r f col)) : rkI p E A (col + 1) (dn + 1) c' (y2M p y dn r f col) := by
  obtain ⟨p2, p8⟩ := isP_lt hp
  obtain ⟨h1, h2, h3, h4, h5, ⟨l, l1, l2⟩, h7⟩ := h
  have ydn : ∀ j, y1M p y dn r f dn j = y r j * f % p := fun j => if_pos rfl
  have y1lt : ∀ e, e < E → ∀ j, j < 64 → y1M p y dn r f e j < p := by
    intro e he j hj
    unfold y1M
    split
    · exact Nat.mod_lt _ (by omega)
    · split
      · exact h2 dn (by omega) j hj
      · exact h2 e he j hj
  have y2lo : ∀ e, e ≤ dn → ∀ j, y2M p y dn r f col e j = y1M p y dn r f e j := fun e he j => if_pos he
  have y2hi : ∀ e, dn < e → ∀ j, y2M p y dn r f col e j < p ∧ (p : Int) ∣ ((y1M p y dn r f e j : Int) - (y1M p y dn r f e col : Int) * (y1M p y dn r f dn j : Int)) - (y2M p y dn r f col e j : Int) := by
    intro e he j
    unfold y2M
    rw [if_neg (by omega)]
    exact toNat_mod _ (by omega)
  have yold : ∀ e, e < dn → ∀ j, y1M p y dn r f e j = y e j := fun e he j => by
    unfold y1M
    rw [if_neg (by omega), if_neg (by omega)]
  have pc : y1M p y dn r f dn col = 1 := by rw [ydn, Nat.mul_comm]; exact hf
  have pz : ∀ j, j < col → y1M p y dn r f dn j = 0 := fun j hj => by rw [ydn, h7 r hr1 hr2 j hj, Nat.zero_mul, Nat.zero_mod]
  have ez : ∀ e, dn < e → e < E → ∀ j, j < col → y1M p y dn r f e j = 0 := fun e he he2 j hj => by
    unfold y1M
    rw [if_neg (by omega)]
    split
    · exact h7 dn (Nat.le_refl _) (by omega) j hj
    · exact h7 e (by omega) he2 j hj
  have d1 : ∀ j, (p : Int) ∣ (f : Int) * (y r j : Int) - (y1M p y dn r f dn j : Int) := fun j => by
    rw [ydn]
    have := mod_dv (p := p) ((y r j * f : Nat) : Int)
    refine dv_eq ?_ this
    rw [Int.natCast_emod, Int.natCast_mul, Int.mul_comm]
  have d2 : (p : Int) ∣ (f : Int) * (y r col : Int) - 1 := by
    have := mod_dv (p := p) ((f * y r col : Nat) : Int)
    refine dv_eq ?_ this
    rw [← Int.natCast_emod, hf, Int.natCast_mul]
    rfl
  have A1 : ∀ e, e < E → Wk p 64 A E (fun j => (y1M p y dn r f e j : Int)) := by
    intro e he
    by_cases q : e = dn
    · rw [q]
      exact Wk_cong (fun j _ => d1 j) (Wk_mul (f : Int) (h4 r hr2))
    · by_cases q2 : e = r
      · refine Wk_eq (fun j _ => ?_) (h4 dn (by omega))
        show (y dn j : Int) = (y1M p y dn r f e j : Int)
        unfold y1M
        rw [if_neg q, if_pos q2]
      · refine Wk_eq (fun j _ => ?_) (h4 e he)
        show (y e j : Int) = (y1M p y dn r f e j : Int)
        unfold y1M
        rw [if_neg q, if_neg q2]
  have A2 : ∀ e, e < E → Wk p 64 A E (fun j => (y2M p y dn r f col e j : Int)) := by
    intro e he
    rcases Nat.lt_or_ge dn e with q | q
    · exact Wk_cong (fun j _ => (y2hi e q j).2) (Wk_sub (y1M p y dn r f e col : Int) (A1 e he) (A1 dn (by omega)))
    · exact Wk_eq (fun j _ => by rw [y2lo e q j]) (A1 e he)
  have B1 : ∀ e, e < E → Wk p 64 (fun e j => (y2M p y dn r f col e j : Int)) E (fun j => (y1M p y dn r f e j : Int)) := by
    intro e he
    rcases Nat.lt_or_ge dn e with q | q
    · refine Wk_cong (fun j _ => ?_) (Wk_add (Wk_gen (A := fun e j => (y2M p y dn r f col e j : Int)) he) (Wk_mul (y1M p y dn r f e col : Int) (Wk_gen (A := fun e j => (y2M p y dn r f col e j : Int)) (e := dn) (by omega))))
      show (p : Int) ∣ ((y2M p y dn r f col e j : Int) + (y1M p y dn r f e col : Int) * (y2M p y dn r f col dn j : Int)) - (y1M p y dn r f e j : Int)
      rw [y2lo dn (Nat.le_refl _) j]
      have := (y2hi e q j).2
      exact dv_eq (by omega) (Int.dvd_neg.mpr this)
    · exact Wk_eq (fun j _ => by show (y2M p y dn r f col e j : Int) = _; rw [y2lo e q j]) (Wk_gen (A := fun e j => (y2M p y dn r f col e j : Int)) he)
  have B2 : ∀ e, e < E → Wk p 64 (fun e j => (y2M p y dn r f col e j : Int)) E (fun j => (y e j : Int)) := by
    intro e he
    by_cases q2 : e = r
    · rw [q2]
      refine Wk_cong (fun j _ => ?_) (Wk_mul (y r col : Int) (B1 dn (by omega)))
      show (p : Int) ∣ (y r col : Int) * (y1M p y dn r f dn j : Int) - (y r j : Int)
      have m1 := dv_l (y r col : Int) (d1 j)
      have m2 := dv_l (y r j : Int) d2
      refine dv_eq ?_ (Int.dvd_sub m2 m1)
      rw [Int.mul_sub, Int.mul_sub, Int.mul_one]
      have e1 : (y r j : Int) * ((f : Int) * (y r col : Int)) = (y r col : Int) * ((f : Int) * (y r j : Int)) := by
        rw [Int.mul_comm (y r j : Int), Int.mul_comm (f : Int), Int.mul_assoc]
      omega
    · by_cases q : e = dn
      · refine Wk_eq (fun j _ => ?_) (B1 r hr2)
        show (y1M p y dn r f r j : Int) = _
        unfold y1M
        rw [if_neg (fun z => q2 (by rw [q, z])), if_pos rfl, q]
      · refine Wk_eq (fun j _ => ?_) (B1 e he)
        show (y1M p y dn r f e j : Int) = _
        unfold y1M
        rw [if_neg q, if_neg q2]
  refine ⟨hc, fun e he j hj => ?_, by omega, A2, fun e he => Wk_in (fun e he => B2 e he) (h5 e he), ⟨updN l dn col, fun i hi => ?_, fun i k hik hk => ?_⟩, fun e he1 he2 j hj => ?_⟩
  · rcases Nat.lt_or_ge dn e with q | q
    · exact (y2hi e q j).1
    · rw [y2lo e q j]
      exact y1lt e he j hj
  · unfold updN
    by_cases q : i = dn
    · rw [if_pos q, q]
      refine ⟨⟨hcol, ?_, fun j hj => ?_⟩, by omega⟩
      · show ¬ (p : Int) ∣ (y2M p y dn r f col dn col : Int)
        rw [y2lo dn (Nat.le_refl _), pc, dv_small (by omega)]
        decide
      · show (p : Int) ∣ (y2M p y dn r f col dn j : Int)
        rw [y2lo dn (Nat.le_refl _), pz j hj]
        exact Int.dvd_zero _
    · rw [if_neg q]
      obtain ⟨a1, a2⟩ := l1 i (by omega)
      have e : (fun j => (y2M p y dn r f col i j : Int)) = fun j => (y i j : Int) := funext fun j => by rw [y2lo i (by omega), yold i (by omega)]
      rw [e]
      exact ⟨a1, by omega⟩
  · unfold updN
    rw [if_neg (show ¬ i = dn by omega)]
    by_cases q : k = dn
    · rw [if_pos q]
      exact (l1 i (by omega)).2
    · rw [if_neg q]
      exact l2 i k hik (by omega)
  · have q : dn < e := by omega
    obtain ⟨g1, g2⟩ := y2hi e q j
    rcases Nat.lt_or_ge j col with w | w
    · rw [ez e q he2 j w, pz j w] at g2
      exact (dv_small g1).mp (dv_eq (by omega) (Int.dvd_neg.mpr g2))
    · have ej : j = col := by omega
      rw [ej, pc] at g2
      rw [ej] at g1 ⊢
      exact (dv_small g1).mp (dv_eq (by omega) (Int.dvd_neg.mpr g2))
theorem rk_skip {p E : Nat} {A : Nat → Nat → Int} {col dn : Nat} {c : Nat → Int32} {y : Nat → Nat → Nat} (h : rkI p E A col dn c y) (hz : ∀ e, dn ≤ e → e < E → y e col = 0) : rkI p E A (col + 1) dn c y := by
  obtain ⟨h1, h2, h3, h4, h5, ⟨l, l1, l2⟩, h7⟩ := h
  refine ⟨h1, h2, h3, h4, h5, ⟨l, fun i hi => ⟨(l1 i hi).1, by have := (l1 i hi).2; omega⟩, l2⟩, fun e he1 he2 j hj => ?_⟩
  rcases Nat.lt_or_ge j col with q | q
  · exact h7 e he1 he2 j q
  · rw [show j = col by omega]
    exact hz e he1 he2
theorem rk_end {p E : Nat} {A : Nat → Nat → Int} {dn : Nat} {c : Nat → Int32} {y : Nat → Nat → Nat} (hp : isP p) (h : rkI p E A 64 dn c y) : dn = lct p 64 A E := by
  obtain ⟨h1, h2, h3, h4, h5, ⟨l, l1, l2⟩, h7⟩ := h
  have key : ∀ k, k ≤ E → ∀ v j, Wk p 64 (fun e j => (y e j : Int)) k v → ldg p 64 v j → ∃ i, i < k ∧ i < dn ∧ j = l i := by
    intro k
    induction k with
    | zero => exact fun _ v j hv hl => absurd (hv j hl.1) hl.2.1
    | succ k ih =>
      intro hk v j hv hl
      have ih' := ih (by omega)
      rcases Nat.lt_or_ge k dn with q | q
      · rcases lead_add (L := fun j => ∃ i, i < k ∧ i < dn ∧ j = l i) (r := fun j => (y k j : Int)) (isP_pme hp) ih' (l1 k q).1 (fun ⟨i, i1, i2, i3⟩ => by have := l2 i k i1 q; omega) (Wk_eq (fun j _ => by show (0 : Int) = (y k j : Int) - (y k j : Int); omega) Wk_zero) v j hv hl with ⟨i, i1, i2, i3⟩ | z
        · exact ⟨i, by omega, i2, i3⟩
        · exact ⟨k, by omega, q, z⟩
      · obtain ⟨i, i1, i2, i3⟩ := lead_same (L := fun j => ∃ i, i < k ∧ i < dn ∧ j = l i) ih' (Wk_eq (fun j hj => by show (0 : Int) = (y k j : Int); rw [h7 k q (by omega) j hj]; rfl) Wk_zero) v j hv hl
        exact ⟨i, by omega, i2, i3⟩
  have hLL : ∀ j, LL p 64 A E j ↔ ∃ i, i < dn ∧ l i = j := by
    intro j
    constructor
    · rintro ⟨v, hv, hl⟩
      obtain ⟨i, i1, i2, i3⟩ := key E (Nat.le_refl _) v j (Wk_in (fun e he => h5 e he) hv) hl
      exact ⟨i, i2, i3.symm⟩
    · rintro ⟨i, hi, e⟩
      exact ⟨_, h4 i (by omega), e ▸ (l1 i hi).1⟩
  have linj : ∀ i k, i < dn → k < dn → l i = l k → i = k := by
    intro i k hi hk e
    rcases Nat.lt_trichotomy i k with q | q | q
    · have := l2 i k q hk
      omega
    · exact q
    · have := l2 k i q hi
      omega
  have hall : fb_ct (fun _ => true) dn = dn := fb_ct_all.mpr (fun _ _ => rfl)
  unfold lct
  refine Nat.le_antisymm ?_ ?_
  · conv => lhs; rw [← hall]
    exact ct_inj (φ := l) (fun i hi _ => ⟨(l1 i hi).1.1, dB_t.mpr ((hLL _).mpr ⟨i, hi, rfl⟩)⟩) (fun i k hi hk _ _ e => linj i k hi hk e)
  · conv => rhs; rw [← hall]
    refine ct_inj (φ := fun j => lst l j dn) (fun j hj hP => ⟨(lst_ok ((hLL j).mp (dB_t.mp hP))).1, rfl⟩) (fun j k hj hk hP hQ e => ?_)
    have e1 := (lst_ok ((hLL j).mp (dB_t.mp hP))).2
    have e2 := (lst_ok ((hLL k).mp (dB_t.mp hQ))).2
    have e' : lst l j dn = lst l k dn := e
    rw [← e1, ← e2, e']
