/-! All tables whose rows are permutations, in order; the least racks among them. -/
theorem brk_none {T : Nat → Nat → Nat} {N : Nat} : brk T N = none ↔ ∀ a b c, a < N → b < N → c < N → T a (T b c) = T (T a b) (T a c) := by
  unfold brk
  rw [findO_none]
  constructor
  · intro h a b c ha hb hc
    have h1 := findO_none.mp (findO_none.mp (h a ha) b hb) c hc
    unfold brkF at h1
    split at h1
    · assumption
    · cases h1
  · intro h a ha
    refine findO_none.mpr (fun b hb => findO_none.mpr (fun c hc => ?_))
    unfold brkF
    rw [if_pos (h a b c ha hb hc)]
def dgt (n k a : Nat) : Nat := k / fac n ^ (n - 1 - a) % fac n
def Tk (n k a b : Nat) : Nat := pdg n (dgt n k a) b
theorem dgt_lt (n k a : Nat) : dgt n k a < fac n := Nat.mod_lt _ (fac_pos n)
theorem Tk_lt {n k : Nat} (hn : n ≤ 8) : ∀ a b, a < n → b < n → Tk n k a b < n := fun a b _ hb => pdg_lt hn (dgt_lt n k a) hb
theorem Tk_pm {n k : Nat} (hn : n ≤ 8) (a : Nat) : pm n (Tk n k a) := pdg_pm hn (dgt_lt n k a)
def good (n k : Nat) : Prop := brk (Tk n k) n = none ∧ lstT n (Tk n k) (Tk n k)
noncomputable def gdB (n k : Nat) : Bool := dB (good n k)
noncomputable def tot (n : Nat) : Nat := fb_ct (gdB n) (fac n ^ n)
theorem dg3 (k : Nat) : dgt 3 k 0 = k / 36 % 6 ∧ dgt 3 k 1 = k / 6 % 6 ∧ dgt 3 k 2 = k / 1 % 6 := by
  refine ⟨rfl, rfl, rfl⟩
theorem tT3_ok {k : Nat} {d : Nat → Nat} {a b : Nat} (hb : b < 3) (e : d a = dgt 3 k a) : tT3 d a b = Tk 3 k a b := by
  unfold tT3 Tk
  rw [e, pt3_ok _ (dgt_lt 3 k a) b hb]
theorem ag3_ok {k l : Nat} {d : Nat → Nat} (hb : brk (Tk 3 k) 3 = none) (hl : l < 3) (hd : ∀ a, a ≤ l → d a = dgt 3 k a) : ag3 d l = true := by
  have h := brk_none.mp hb
  have hT := Tk_lt (n := 3) (k := k) (by decide)
  unfold ag3
  refine al_yes (fun a ha => al_yes (fun b hb => ?_))
  rw [tT3_ok (by omega) (hd a (by omega))]
  have h1 := hT a b (by omega) (by omega)
  rcases Nat.lt_or_ge l (Tk 3 k a b) with q | q
  · simp [q]
  · have : al (fun c => tT3 d a (tT3 d b c) == tT3 d (Tk 3 k a b) (tT3 d a c)) 3 = true := by
      refine al_yes (fun c hc => ?_)
      have h2 := hT b c (by omega) hc
      have h3 := hT a c (by omega) hc
      rw [tT3_ok (a := b) hc (hd b (by omega)), tT3_ok (a := a) (b := c) hc (hd a (by omega)), tT3_ok h2 (hd a (by omega)), tT3_ok h3 (hd _ q)]
      rw [h a b c (by omega) (by omega) hc]
      simp
    rw [this, Bool.or_true]
theorem ls3_ok {k q : Nat} {d : Nat → Nat} (hq : q < 6) (hd : ∀ a, a < 3 → d a = dgt 3 k a) (h : ls3 d q = true) : ltT 3 (mkS 3 (Tk 3 k) (pdg 3 q)) (Tk 3 k) := by
  have hp := pdg_pm (m := 3) (by decide) (show q < fac 3 from hq)
  have hT := Tk_lt (n := 3) (k := k) (by decide)
  have key : ∀ u, u < 9 → pt3 q (tT3 d (pv3 q (u / 3)) (pv3 q (u % 3))) = mkS 3 (Tk 3 k) (pdg 3 q) (u / 3) (u % 3) ∧ tT3 d (u / 3) (u % 3) = Tk 3 k (u / 3) (u % 3) := by
    intro u hu
    have hi : u / 3 < 3 := by omega
    have hj : u % 3 < 3 := by omega
    obtain ⟨i1, i2⟩ := pv3_ok q hq _ hi
    obtain ⟨j1, j2⟩ := pv3_ok q hq _ hj
    have ei : inv 3 (pdg 3 q) (u / 3) = pv3 q (u / 3) := pm_inj hp (inv_ok hp hi).1 i2 (by rw [(inv_ok hp hi).2, pt3_ok q hq _ i2, i1])
    have ej : inv 3 (pdg 3 q) (u % 3) = pv3 q (u % 3) := pm_inj hp (inv_ok hp hj).1 j2 (by rw [(inv_ok hp hj).2, pt3_ok q hq _ j2, j1])
    refine ⟨?_, tT3_ok hj (hd _ hi)⟩
    unfold mkS
    rw [ei, ej, tT3_ok j2 (hd _ i2), pt3_ok q hq _ (hT _ _ i2 j2)]
  obtain ⟨u, hu, e⟩ := exB_t h
  rw [Bool.and_eq_true] at e
  obtain ⟨e1, e2⟩ := e
  have e1' := of_decide_eq_true e1
  rw [(key u hu).1, (key u hu).2] at e1'
  refine ⟨u / 3, u % 3, by omega, by omega, e1', fun a b ha hb w => ?_⟩
  have hw : 3 * a + b < u := by omega
  have e3 := al_iff.mp e2 (3 * a + b) hw
  rw [(key _ (by omega)).1, (key _ (by omega)).2, show (3 * a + b) / 3 = a by omega, show (3 * a + b) % 3 = b by omega] at e3
  simpa using e3
theorem tot3 : tot 3 ≤ 6 := by
  have key : ∀ k, k < 216 → good 3 k → ∃ i, i < 6 ∧ lk3 i = k := by
    intro k hk hg
    obtain ⟨e0, e1, e2⟩ := dg3 k
    have c := chk3_ok
    unfold chk3 at c
    have c := al_iff.mp c (dgt 3 k 0) (dgt_lt 3 k 0)
    have a1 : ag3 (fun _ => dgt 3 k 0) 0 = true := ag3_ok hg.1 (by decide) (fun a ha => by
      rw [show a = 0 by omega])
    rw [a1] at c
    rw [Bool.not_true, Bool.false_or] at c
    have c := al_iff.mp c (dgt 3 k 1) (dgt_lt 3 k 1)
    have a2 : ag3 (fun i => if i = 0 then dgt 3 k 0 else dgt 3 k 1) 1 = true := ag3_ok hg.1 (by decide) (fun a ha => by
      have : a = 0 ∨ a = 1 := by omega
      rcases this with rfl | rfl <;> rfl)
    rw [a2] at c
    rw [Bool.not_true, Bool.false_or] at c
    have c := al_iff.mp c (dgt 3 k 2) (dgt_lt 3 k 2)
    have a3 : ag3 (fun i => if i = 0 then dgt 3 k 0 else if i = 1 then dgt 3 k 1 else dgt 3 k 2) 2 = true := ag3_ok hg.1 (by decide) (fun a ha => by
      have : a = 0 ∨ a = 1 ∨ a = 2 := by omega
      rcases this with rfl | rfl | rfl <;> rfl)
    rw [a3] at c
    rw [Bool.not_true, Bool.false_or] at c
    rw [Bool.or_eq_true] at c
    rcases c with c | c
    · obtain ⟨q, hq, eq⟩ := exB_t c
      have := ls3_ok (k := k) hq (fun a ha => by
        have : a = 0 ∨ a = 1 ∨ a = 2 := by omega
        rcases this with rfl | rfl | rfl <;> rfl) eq
      exact absurd this (hg.2.2 _ _ (mkS_iso (pdg_pm (m := 3) (by decide) (show q < fac 3 from hq))))
    · obtain ⟨i, hi, ei⟩ := exB_t c
      refine ⟨i, hi, ?_⟩
      have ei' := eq_of_beq ei
      rw [ei', e0, e1, e2]
      omega
  have hall : fb_ct (fun _ => true) 6 = 6 := fb_ct_all.mpr (fun _ _ => rfl)
  have hE : fac 3 ^ 3 = 216 := by decide
  unfold tot
  rw [hE]
  conv => rhs; rw [← hall]
  refine ct_inj (φ := fun k => lst lk3 k 6) (fun k hk hP => ⟨(lst_ok (key k hk (dB_t.mp hP))).1, rfl⟩) (fun k l hk hl hP hQ e => ?_)
  have e1 := (lst_ok (key k hk (dB_t.mp hP))).2
  have e2 := (lst_ok (key l hl (dB_t.mp hQ))).2
  have e' : lst lk3 k 6 = lst lk3 l 6 := e
  rw [← e1, ← e2, e']
theorem dg4 (k : Nat) : dgt 4 k 0 = k / 13824 % 24 ∧ dgt 4 k 1 = k / 576 % 24 ∧ dgt 4 k 2 = k / 24 % 24 ∧ dgt 4 k 3 = k / 1 % 24 := by
  refine ⟨rfl, rfl, rfl, rfl⟩
theorem tT4_ok {k : Nat} {d : Nat → Nat} {a b : Nat} (hb : b < 4) (e : d a = dgt 4 k a) : tT4 d a b = Tk 4 k a b := by
  unfold tT4 Tk
  rw [e, pt4_ok _ (dgt_lt 4 k a) b hb]
theorem ag4_ok {k l : Nat} {d : Nat → Nat} (hb : brk (Tk 4 k) 4 = none) (hl : l < 4) (hd : ∀ a, a ≤ l → d a = dgt 4 k a) : ag4 d l = true := by
  have h := brk_none.mp hb
  have hT := Tk_lt (n := 4) (k := k) (by decide)
  unfold ag4
  refine al_yes (fun a ha => al_yes (fun b hb => ?_))
  rw [tT4_ok (by omega) (hd a (by omega))]
  have h1 := hT a b (by omega) (by omega)
  rcases Nat.lt_or_ge l (Tk 4 k a b) with q | q
  · simp [q]
  · have : al (fun c => tT4 d a (tT4 d b c) == tT4 d (Tk 4 k a b) (tT4 d a c)) 4 = true := by
      refine al_yes (fun c hc => ?_)
      have h2 := hT b c (by omega) hc
      have h3 := hT a c (by omega) hc
      rw [tT4_ok (a := b) hc (hd b (by omega)), tT4_ok (a := a) (b := c) hc (hd a (by omega)), tT4_ok h2 (hd a (by omega)), tT4_ok h3 (hd _ q)]
      rw [h a b c (by omega) (by omega) hc]
      simp
    rw [this, Bool.or_true]
theorem ls4_ok {k q : Nat} {d : Nat → Nat} (hq : q < 24) (hd : ∀ a, a < 4 → d a = dgt 4 k a) (h : ls4 d q = true) : ltT 4 (mkS 4 (Tk 4 k) (pdg 4 q)) (Tk 4 k) := by
  have hp := pdg_pm (m := 4) (by decide) (show q < fac 4 from hq)
  have hT := Tk_lt (n := 4) (k := k) (by decide)
  have key : ∀ u, u < 16 → pt4 q (tT4 d (pv4 q (u / 4)) (pv4 q (u % 4))) = mkS 4 (Tk 4 k) (pdg 4 q) (u / 4) (u % 4) ∧ tT4 d (u / 4) (u % 4) = Tk 4 k (u / 4) (u % 4) := by
    intro u hu
    have hi : u / 4 < 4 := by omega
    have hj : u % 4 < 4 := by omega
    obtain ⟨i1, i2⟩ := pv4_ok q hq _ hi
    obtain ⟨j1, j2⟩ := pv4_ok q hq _ hj
    have ei : inv 4 (pdg 4 q) (u / 4) = pv4 q (u / 4) := pm_inj hp (inv_ok hp hi).1 i2 (by rw [(inv_ok hp hi).2, pt4_ok q hq _ i2, i1])
    have ej : inv 4 (pdg 4 q) (u % 4) = pv4 q (u % 4) := pm_inj hp (inv_ok hp hj).1 j2 (by rw [(inv_ok hp hj).2, pt4_ok q hq _ j2, j1])
    refine ⟨?_, tT4_ok hj (hd _ hi)⟩
    unfold mkS
    rw [ei, ej, tT4_ok j2 (hd _ i2), pt4_ok q hq _ (hT _ _ i2 j2)]
  obtain ⟨u, hu, e⟩ := exB_t h
  rw [Bool.and_eq_true] at e
  obtain ⟨e1, e2⟩ := e
  have e1' := of_decide_eq_true e1
  rw [(key u hu).1, (key u hu).2] at e1'
  refine ⟨u / 4, u % 4, by omega, by omega, e1', fun a b ha hb w => ?_⟩
  have hw : 4 * a + b < u := by omega
  have e3 := al_iff.mp e2 (4 * a + b) hw
  rw [(key _ (by omega)).1, (key _ (by omega)).2, show (4 * a + b) / 4 = a by omega, show (4 * a + b) % 4 = b by omega] at e3
  simpa using e3
theorem tot4 : tot 4 ≤ 19 := by
  have key : ∀ k, k < 331776 → good 4 k → ∃ i, i < 19 ∧ lk4 i = k := by
    intro k hk hg
    obtain ⟨e0, e1, e2, e3⟩ := dg4 k
    have c := chk4_ok
    unfold chk4 at c
    have c := al_iff.mp c (dgt 4 k 0) (dgt_lt 4 k 0)
    have a1 : ag4 (fun _ => dgt 4 k 0) 0 = true := ag4_ok hg.1 (by decide) (fun a ha => by
      rw [show a = 0 by omega])
    rw [a1] at c
    rw [Bool.not_true, Bool.false_or] at c
    have c := al_iff.mp c (dgt 4 k 1) (dgt_lt 4 k 1)
    have a2 : ag4 (fun i => if i = 0 then dgt 4 k 0 else dgt 4 k 1) 1 = true := ag4_ok hg.1 (by decide) (fun a ha => by
      have : a = 0 ∨ a = 1 := by omega
      rcases this with rfl | rfl <;> rfl)
    rw [a2] at c
    rw [Bool.not_true, Bool.false_or] at c
    have c := al_iff.mp c (dgt 4 k 2) (dgt_lt 4 k 2)
    have a3 : ag4 (fun i => if i = 0 then dgt 4 k 0 else if i = 1 then dgt 4 k 1 else dgt 4 k 2) 2 = true := ag4_ok hg.1 (by decide) (fun a ha => by
      have : a = 0 ∨ a = 1 ∨ a = 2 := by omega
      rcases this with rfl | rfl | rfl <;> rfl)
    rw [a3] at c
    rw [Bool.not_true, Bool.false_or] at c
    have c := al_iff.mp c (dgt 4 k 3) (dgt_lt 4 k 3)
    have a4 : ag4 (fun i => if i = 0 then dgt 4 k 0 else if i = 1 then dgt 4 k 1 else if i = 2 then dgt 4 k 2 else dgt 4 k 3) 3 = true := ag4_ok hg.1 (by decide) (fun a ha => by
      have : a = 0 ∨ a = 1 ∨ a = 2 ∨ a = 3 := by omega
      rcases this with rfl | rfl | rfl | rfl <;> rfl)
    rw [a4] at c
    rw [Bool.not_true, Bool.false_or] at c
    rw [Bool.or_eq_true] at c
    rcases c with c | c
    · obtain ⟨q, hq, eq⟩ := exB_t c
      have := ls4_ok (k := k) hq (fun a ha => by
        have : a = 0 ∨ a = 1 ∨ a = 2 ∨ a = 3 := by omega
        rcases this with rfl | rfl | rfl | rfl <;> rfl) eq
      exact absurd this (hg.2.2 _ _ (mkS_iso (pdg_pm (m := 4) (by decide) (show q < fac 4 from hq))))
    · obtain ⟨i, hi, ei⟩ := exB_t c
      refine ⟨i, hi, ?_⟩
      have ei' := eq_of_beq ei
      rw [ei', e0, e1, e2, e3]
      omega
  have hall : fb_ct (fun _ => true) 19 = 19 := fb_ct_all.mpr (fun _ _ => rfl)
  have hE : fac 4 ^ 4 = 331776 := by decide
  unfold tot
  rw [hE]
  conv => rhs; rw [← hall]
  refine ct_inj (φ := fun k => lst lk4 k 19) (fun k hk hP => ⟨(lst_ok (key k hk (dB_t.mp hP))).1, rfl⟩) (fun k l hk hl hP hQ e => ?_)
  have e1 := (lst_ok (key k hk (dB_t.mp hP))).2
  have e2 := (lst_ok (key l hl (dB_t.mp hQ))).2
  have e' : lst lk4 k 19 = lst lk4 l 19 := e
  rw [← e1, ← e2, e']
theorem tot_le {n : Nat} (h1 : 1 ≤ n) (h4 : n ≤ 4) : tot n ≤ 19 := by
  have : n = 1 ∨ n = 2 ∨ n = 3 ∨ n = 4 := by omega
  rcases this with rfl | rfl | rfl | rfl
  · exact Nat.le_trans (fb_ct_le _ _) (by decide)
  · exact Nat.le_trans (fb_ct_le _ _) (by decide)
  · exact Nat.le_trans tot3 (by decide)
  · exact tot4
