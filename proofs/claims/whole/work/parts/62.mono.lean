/-! What rows make together, one behind the other. -/
def eqN (N : Nat) (g h : Nat → Nat) : Prop := ∀ i, i < N → g i = h i
def Mn (N : Nat) (S : (Nat → Nat) → Prop) (f : Nat → Nat) : Prop := ∀ P : (Nat → Nat) → Prop, P (fun i => i) → (∀ s g, S s → P g → P (fun i => s (g i))) → (∀ g h, eqN N g h → P g → P h) → P f
theorem Mn_id {N : Nat} {S : (Nat → Nat) → Prop} : Mn N S (fun i => i) := fun _ h _ _ => h
theorem Mn_mul {N : Nat} {S : (Nat → Nat) → Prop} {s g : Nat → Nat} (hs : S s) (hg : Mn N S g) : Mn N S (fun i => s (g i)) := fun P h1 h2 h3 => h2 s g hs (hg P h1 h2 h3)
theorem Mn_cong {N : Nat} {S : (Nat → Nat) → Prop} {g h : Nat → Nat} (e : eqN N g h) (hg : Mn N S g) : Mn N S h := fun P h1 h2 h3 => h3 g h e (hg P h1 h2 h3)
theorem Mn_gen {N : Nat} {S : (Nat → Nat) → Prop} {s : Nat → Nat} (hs : S s) : Mn N S s := Mn_mul hs Mn_id
theorem Mn_pm {N : Nat} {S : (Nat → Nat) → Prop} {f : Nat → Nat} (hS : ∀ s, S s → pm N s) (hf : Mn N S f) : pm N f := by
  refine hf (pm N) ⟨fun _ h => h, fun i j h _ => by show i ≠ j; omega⟩ (fun s g hs hg => ?_) (fun g h e hg => ?_)
  · exact pm_ofF (fun i hi => (hS s hs).1 _ (hg.1 i hi)) (fun i j hi hj e => pm_inj hg hi hj (pm_inj (hS s hs) (hg.1 i hi) (hg.1 j hj) e))
  · exact pm_ofF (fun i hi => by rw [← e i hi]; exact hg.1 i hi) (fun i j hi hj q => pm_inj hg hi hj (by rw [e i hi, e j hj, q]))
theorem Mn_comp {N : Nat} {S : (Nat → Nat) → Prop} {f g : Nat → Nat} (hgp : pm N g) (hf : Mn N S f) (hg : Mn N S g) : Mn N S (fun i => f (g i)) :=
  hf (fun f => Mn N S (fun i => f (g i))) hg (fun s h hs hh => Mn_mul hs hh) (fun h k e hh => Mn_cong (fun i hi => e _ (hgp.1 i hi)) hh)
theorem Mn_sub {N : Nat} {S S' : (Nat → Nat) → Prop} {f : Nat → Nat} (hp : ∀ s, S' s → pm N s) (hS : ∀ s, S s → Mn N S' s) (hf : Mn N S f) : Mn N S' f := by
  have h := hf (fun g => pm N g ∧ Mn N S' g) ⟨Mn_pm hp Mn_id, Mn_id⟩ (fun s g hs hg => ?_) (fun g h e hg => ⟨?_, Mn_cong e hg.2⟩)
  · exact h.2
  · have hc := Mn_comp hg.1 (hS s hs) hg.2
    exact ⟨Mn_pm hp hc, hc⟩
  · exact pm_ofF (fun i hi => by rw [← e i hi]; exact hg.1.1 i hi) (fun i j hi hj q => pm_inj hg.1 hi hj (by rw [e i hi, e j hj, q]))
/-! powers: the contrary is one of them -/
def pw (f : Nat → Nat) : Nat → Nat → Nat
  | 0 => fun i => i
  | k + 1 => fun i => f (pw f k i)
theorem pw_pm {N : Nat} {f : Nat → Nat} (hf : pm N f) : ∀ k, pm N (pw f k)
  | 0 => ⟨fun _ h => h, fun i j h _ => by show i ≠ j; omega⟩
  | k + 1 => pm_ofF (fun i hi => hf.1 _ ((pw_pm hf k).1 i hi)) (fun i j hi hj e => pm_inj (pw_pm hf k) hi hj (pm_inj hf ((pw_pm hf k).1 i hi) ((pw_pm hf k).1 j hj) e))
theorem pw_Mn {N : Nat} {S : (Nat → Nat) → Prop} {f : Nat → Nat} (hp : pm N f) (hf : Mn N S f) : ∀ k, Mn N S (pw f k)
  | 0 => Mn_id
  | k + 1 => Mn_comp (f := f) (g := pw f k) (pw_pm hp k) hf (pw_Mn hp hf k)
theorem pw_add (f : Nat → Nat) (a : Nat) : ∀ b i, pw f (b + a) i = pw f b (pw f a i)
  | 0, i => by rw [Nat.zero_add]; rfl
  | b + 1, i => by
    rw [show b + 1 + a = (b + a) + 1 by omega]
    show f (pw f (b + a) i) = f (pw f b (pw f a i))
    rw [pw_add f a b i]
theorem inv_pm {N : Nat} {f : Nat → Nat} (hf : pm N f) : pm N (inv N f) := pm_ofF (fun v hv => (inv_ok hf hv).1) (fun u v hu hv e => by rw [← (inv_ok hf hu).2, ← (inv_ok hf hv).2, e])
theorem Mn_inv {N : Nat} {S : (Nat → Nat) → Prop} {f : Nat → Nat} (hN : N ≤ 8) (hp : pm N f) (hf : Mn N S f) : Mn N S (inv N f) := by
  obtain ⟨i, j, hij, hj, e⟩ := fb_twice (m := fac N) (n := fac N + 1) (f := fun k => rnk N (pw f k)) (fun k _ => rnk_lt (pw_pm hp k)) (Nat.lt_succ_self _)
  have e' : rnk N (pw f i) = rnk N (pw f j) := e
  have heq : ∀ x, x < N → pw f i x = pw f j x := fun x hx => by
    rw [← pdg_rnk hN (pw_pm hp i) x hx, e', pdg_rnk hN (pw_pm hp j) x hx]
  have hone : ∀ x, x < N → pw f (j - i) x = x := by
    intro x hx
    have h1 := heq x hx
    rw [show j = i + (j - i) by omega, pw_add] at h1
    exact (pm_inj (pw_pm hp i) hx ((pw_pm hp (j - i)).1 x hx) h1).symm
  refine Mn_cong (fun x hx => ?_) (pw_Mn hp hf (j - i - 1))
  obtain ⟨v1, v2⟩ := inv_ok hp hx
  refine pm_inj hp ((pw_pm hp _).1 x hx) v1 ?_
  rw [v2]
  have := hone x hx
  rw [show j - i = (j - i - 1) + 1 by omega] at this
  exact this
noncomputable def cnt (N : Nat) (H : (Nat → Nat) → Prop) : Nat := fb_ct (fun p => dB (H (pdg N p))) (fac N)
theorem cnt_cong {N : Nat} {H H' : (Nat → Nat) → Prop} (h : ∀ f, H f ↔ H' f) : cnt N H = cnt N H' := by
  unfold cnt
  refine fb_ct_cong (fun p _ => ?_)
  cases e : dB (H' (pdg N p)) with
  | true => exact dB_t.mpr ((h _).mpr (dB_t.mp e))
  | false => exact dB_f.mpr (fun q => dB_f.mp e ((h _).mp q))
/-- a group that moves L to o things, each by a carrier, has o times as many as those that let L stay -/
theorem cnt_step {N L o : Nat} {S S' : (Nat → Nat) → Prop} {O : Nat → Bool} {c : Nat → Nat → Nat} (hN : N ≤ 8) (hL : L < N) (hS : ∀ s, S s → pm N s) (hO : fb_ct O N = o) (hO1 : ∀ h, Mn N S h → O (h L) = true) (hc : ∀ b, b < N → O b = true → Mn N S (c b) ∧ c b L = b)
    (hst : ∀ h, Mn N S' h ↔ (Mn N S h ∧ h L = L)) : cnt N (Mn N S) = o * cnt N (Mn N S') := by
  unfold cnt
  rw [← ct_by (p := fun p => dB (Mn N S (pdg N p))) (f := fun p => pdg N p L) (m := N) (fun p hp => pdg_lt hN hp hL), ← hO, ← sm_if]
  refine fb_sm_cong (fun b hb => ?_)
  by_cases hg : O b = true
  · rw [if_pos hg]
    obtain ⟨c1, c2⟩ := hc b hb hg
    have cp := Mn_pm hS c1
    have ci := Mn_inv hN cp c1
    have mk : ∀ p, p < fac N → ∀ h : Nat → Nat, Mn N S h → Mn N S (pdg N p) → rnk N (fun i => h (pdg N p i)) < fac N ∧ Mn N S (pdg N (rnk N (fun i => h (pdg N p i)))) ∧ ∀ i, i < N → pdg N (rnk N (fun i => h (pdg N p i))) i = h (pdg N p i) := by
      intro p hp h hh hi
      have hcm := Mn_comp (pdg_pm hN hp) hh hi
      have hpm := Mn_pm hS hcm
      have e := pdg_rnk hN hpm
      exact ⟨rnk_lt hpm, Mn_cong (fun i hi => (e i hi).symm) hcm, e⟩
    have inj : ∀ h, pm N h → Mn N S h → ∀ p q, p < fac N → q < fac N → Mn N S (pdg N p) → Mn N S (pdg N q) → rnk N (fun i => h (pdg N p i)) = rnk N (fun i => h (pdg N q i)) → p = q := by
      intro h hp hh p q hpp hq hP hQ e
      have m3 := (mk p hpp h hh hP).2.2
      have n3 := (mk q hq h hh hQ).2.2
      refine pdg_one hN hpp hq (fun i hi => ?_)
      have e1 := m3 i hi
      have e2 := n3 i hi
      rw [e] at e1
      rw [e1] at e2
      exact pm_inj hp (pdg_lt hN hpp hi) (pdg_lt hN hq hi) e2
    refine Nat.le_antisymm ?_ ?_
    · refine ct_inj (φ := fun p => rnk N (fun i => inv N (c b) (pdg N p i))) (fun p hp hP => ?_) (fun p q hp hq hP hQ e => ?_)
      · have hP' : dB (Mn N S (pdg N p)) = true ∧ pdg N p L = b := by simpa using hP
        obtain ⟨m1, m2, m3⟩ := mk p hp _ ci (dB_t.mp hP'.1)
        refine ⟨m1, dB_t.mpr ((hst _).mpr ⟨m2, ?_⟩)⟩
        have e9 := inv_f cp hL
        rw [c2] at e9
        rw [m3 L hL, hP'.2]
        exact e9
      · have hP' : dB (Mn N S (pdg N p)) = true ∧ pdg N p L = b := by simpa using hP
        have hQ' : dB (Mn N S (pdg N q)) = true ∧ pdg N q L = b := by simpa using hQ
        exact inj _ (inv_pm cp) ci p q hp hq (dB_t.mp hP'.1) (dB_t.mp hQ'.1) e
    · refine ct_inj (φ := fun p => rnk N (fun i => c b (pdg N p i))) (fun p hp hP => ?_) (fun p q hp hq hP hQ e => ?_)
      · obtain ⟨s1, s2⟩ := (hst _).mp (dB_t.mp hP)
        obtain ⟨m1, m2, m3⟩ := mk p hp _ c1 s1
        refine ⟨m1, ?_⟩
        have t1 : dB (Mn N S (pdg N (rnk N (fun i => c b (pdg N p i))))) = true := dB_t.mpr m2
        have t2 : pdg N (rnk N (fun i => c b (pdg N p i))) L = b := by rw [m3 L hL, s2, c2]
        simp [t1, t2]
      · exact inj _ cp c1 p q hp hq ((hst _).mp (dB_t.mp hP)).1 ((hst _).mp (dB_t.mp hQ)).1 e
  · rw [if_neg hg]
    refine fb_ct_zero.mpr (fun p hp => ?_)
    cases e : (dB (Mn N S (pdg N p)) && pdg N p L == b) with
    | false => rfl
    | true =>
      exfalso
      have e' : dB (Mn N S (pdg N p)) = true ∧ pdg N p L = b := by simpa using e
      have := hO1 _ (dB_t.mp e'.1)
      rw [e'.2] at this
      exact hg this
theorem cnt_none {N : Nat} {S : (Nat → Nat) → Prop} (hN : N ≤ 8) (hS : ∀ s, ¬ S s) : cnt N (Mn N S) = 1 := by
  have hp := fac_pos N
  have hu : fb_ct (fun k => if k = 0 then true else false) (fac N) + 0 = fb_ct (fun _ => false) (fac N) + 1 := fb_ct_upd (fun _ => false) true hp
  have hz : fb_ct (fun _ => false) (fac N) = 0 := fb_ct_zero.mpr (fun _ _ => rfl)
  have hc : cnt N (Mn N S) = fb_ct (fun k => if k = 0 then true else false) (fac N) := by
    refine fb_ct_cong (fun p hpp => ?_)
    by_cases e : p = 0
    · rw [if_pos e, e]
      exact dB_t.mpr (Mn_cong (fun i hi => (pdg_0 N hN i hi).symm) Mn_id)
    · rw [if_neg e]
      refine dB_f.mpr (fun q => e (pdg_one hN hpp hp (fun i hi => ?_)))
      have h := q (fun g => eqN N g (fun i => i)) (fun _ _ => rfl) (fun s g hs => absurd hs (hS s)) (fun g h e hg i hi => by rw [← e i hi]; exact hg i hi)
      rw [h i hi, pdg_0 N hN i hi]
  rw [hc]
  omega
