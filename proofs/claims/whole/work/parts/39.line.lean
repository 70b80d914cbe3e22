/-! The remainder that is never below 0; lines. -/
theorem n_xor0 (x : Int32) {n : Nat} (hn : n < 2 ^ 31) : 0 ≤ (x ^^^ nI n) ↔ 0 ≤ x.toInt := by
  have h1 : (x ^^^ nI n).toBitVec.msb = (x.toBitVec.msb ^^ (nI n).toBitVec.msb) := by
    rw [Int32.toBitVec_xor, BitVec.msb_xor]
  rw [BitVec.msb_eq_toInt, BitVec.msb_eq_toInt, BitVec.msb_eq_toInt] at h1
  have h2 : (nI n).toBitVec.toInt = n := nI_toInt hn
  have h3 : decide ((nI n).toBitVec.toInt < 0) = false := by rw [h2]; exact decide_eq_false (by omega)
  rw [h3, Bool.xor_false] at h1
  rw [Int32.le_iff_toInt_le, Int32.toInt_zero]
  have h4 : ((x ^^^ nI n).toInt < 0) ↔ (x.toInt < 0) := by
    have := h1
    exact decide_eq_decide.mp this
  omega
theorem n_negdiv {n d : Nat} (hn : n < 2 ^ 30) (h0 : 0 < d) (hd : d < 2 ^ 30) : (-nI n) / nI d = -nI (n / d) := by
  have hq : n / d ≤ n := Nat.div_le_self _ _
  apply Int32.toInt_inj.mp
  rw [Int32.toInt_div_of_ne_right _ _ (nI_neg (by omega)), n_negT (by omega), nI_toInt (by omega), n_negT (by omega), Int.neg_tdiv, Int.ofNat_tdiv]
theorem n_negrem {n d : Nat} (hn : n < 2 ^ 30) (h0 : 0 < d) (hd : d < 2 ^ 30) : (-nI n) - (-nI n) / nI d * nI d = -nI (n % d) := by
  rw [n_negdiv hn h0 hd]
  have hq : n / d * d ≤ n := Nat.div_mul_le_self _ _
  have e1 : (-nI (n / d)) * nI d = -nI (n / d * d) := by
    rw [← pk_mul]
    exact Int32.neg_mul _ _
  rw [e1]
  apply Int32.toInt_inj.mp
  have hm : n % d = n - n / d * d := by have := Nat.div_add_mod' n d; omega
  rw [fb_subI, n_negT (by omega), n_negT (by omega), n_negT (by omega)]
  · omega
  · rw [n_negT (by omega), n_negT (by omega)]; omega
  · rw [n_negT (by omega), n_negT (by omega)]; omega
theorem s_floorMod {x : Int32} {n : Nat} {K : Int32 → Prop} (h1 : -1073741824 < x.toInt) (h2 : x.toInt < 1073741824) (hn1 : 1 ≤ n) (hn : n < 2 ^ 30) (h : K (nI (x.toInt % n).toNat)) : pJ9_floorMod_7cf53 x (nI n) K := by
  have hne : ¬ nI n = 0 := nI_ne0 (by omega) (by omega)
  refine ⟨hne, ?_⟩
  rcases Int.lt_or_le x.toInt 0 with hneg | hpos
  · refine ⟨fun q => absurd ((n_xor0 x (by omega)).mp q) (by omega), fun _ => ?_⟩
    obtain ⟨m, hm, ex⟩ : ∃ m : Nat, x.toInt = -(m : Int) ∧ x = -nI m := ⟨(-x.toInt).toNat, by omega, by
      apply Int32.toInt_inj.mp
      rw [n_negT (by omega)]
      omega⟩
    have hmb : m < 2 ^ 30 := by omega
    rw [ex, n_negrem hmb (by omega) hn]
    have hml : m % n < n := Nat.mod_lt _ (by omega)
    have hd := Nat.div_add_mod m n
    rw [hm] at h
    refine ⟨fun q => ?_, fun q => ?_⟩
    · have e0 : m % n = 0 := by
        have := congrArg Int32.toInt q
        rw [n_negT (by omega), Int32.toInt_zero] at this
        omega
      have e1 : (-(m : Int)) % n = 0 := by
        have : (n : Int) ∣ m := ⟨(m / n : Nat), by rw [← Int.natCast_mul]; congr 1; omega⟩
        exact Int.emod_eq_zero_of_dvd (Int.dvd_neg.mpr this)
      rw [e1] at h
      rw [e0]
      exact h
    · have e0 : m % n ≠ 0 := fun w => q (by rw [w]; rfl)
      have e1 : (-(m : Int)) % n = ((n - m % n : Nat) : Int) := by
        have e2 : (-(m : Int)) = ((n - m % n : Nat) : Int) + n * (-((m / n : Nat) : Int) - 1) := by
          have e3 : (m : Int) = n * ((m / n : Nat) : Int) + ((m % n : Nat) : Int) := by rw [← Int.natCast_mul, ← Int.natCast_add]; congr 1; omega
          rw [Int.mul_sub, Int.mul_one, Int.mul_neg]
          omega
        rw [e2, Int.add_mul_emod_self_left]
        exact Int.emod_eq_of_lt (by omega) (by omega)
      rw [e1, Int.toNat_natCast] at h
      have e4 : -nI (m % n) + nI n = nI (n - m % n) := by
        apply Int32.toInt_inj.mp
        rw [fb_addI, n_negT (by omega), nI_toInt (by omega), nI_toInt (by omega)]
        · omega
        · rw [n_negT (by omega), nI_toInt (by omega)]; omega
        · rw [n_negT (by omega), nI_toInt (by omega)]; omega
      rw [e4]
      exact h
  · refine ⟨fun _ => ?_, fun q => absurd ((n_xor0 x (by omega)).mpr hpos) q⟩
    obtain ⟨m, hm, rfl⟩ : ∃ m : Nat, m < 2 ^ 31 ∧ x = nI m := nI_of (by rw [i_lt, Int32.toInt_zero]; omega)
    rw [nI_toInt hm] at h
    rw [pk_rem hm (by omega) (by omega)]
    have e : ((m : Int) % n).toNat = m % n := by rw [← Int.natCast_emod, Int.toNat_natCast]
    rw [e] at h
    exact h
def cpart (n t : Nat) : Nat → Nat
  | 0 => 1
  | 1 => 1
  | d + 2 => if n % (d + 2) = 0 ∧ t % (d + 2) = 0 then d + 2 else cpart n t (d + 1)
theorem s_commonPart {n t : Nat} {K : Int32 → Prop} (hn1 : 1 ≤ n) (hn : n ≤ 8) (ht : t < n) (h : K (nI (cpart n t n))) : pX10_commonPart (nI t) (nI n) K := by
  refine lpW1_for n (fun i x => i < n ∧ x = nI (n - i) ∧ cpart n t (n - i) = cpart n t n) 0 (Nat.zero_le _) ⟨by omega, rfl, rfl⟩ ?_
  rintro i hi x ⟨hin, rfl, hc⟩ R hR
  refine pk_le (n - i) 1 (fun hle => ?_) (fun hlt => ?_)
  · have e : n - i = 1 := by omega
    rw [e] at hc
    rw [← hc] at h
    exact h
  · obtain ⟨d, hd⟩ : ∃ d, n - i = d + 2 := ⟨n - i - 2, by omega⟩
    have hne : ¬ nI (n - i) = 0 := nI_ne0 (by omega) (by omega)
    have nx : ¬ (n % (d + 2) = 0 ∧ t % (d + 2) = 0) → R (nI (n - i) + (-1)) := by
      intro hq
      refine hR hin _ ⟨by omega, ?_, ?_⟩
      · rw [sb_m1 (by omega), show n - (i + 1) = n - i - 1 by omega]
      · rw [← hc, hd, show n - (i + 1) = d + 1 by omega]
        show cpart n t (d + 1) = if _ then _ else _
        rw [if_neg hq]
    rw [pk_rem (a := n) (d := n - i) (by omega) (by omega) (by omega), pk_rem (a := t) (d := n - i) (by omega) (by omega) (by omega)]
    have hb1 : n % (n - i) < n - i := Nat.mod_lt _ (by omega)
    have hb2 : t % (n - i) < n - i := Nat.mod_lt _ (by omega)
    refine ⟨hne, fun q => nx (fun w => q (by rw [hd, w.1]; rfl)), fun q => ⟨hne, fun q2 => nx (fun w => q2 (by rw [hd, w.2]; rfl)), fun q2 => ?_⟩⟩
    have e1 : n % (n - i) = 0 := nI_inj (b := 0) (by omega) (by decide) q
    have e2 : t % (n - i) = 0 := nI_inj (b := 0) (by omega) (by decide) q2
    have e3 : cpart n t (n - i) = n - i := by
      rw [hd] at e1 e2 ⊢
      show (if _ then _ else _) = _
      rw [if_pos ⟨e1, e2⟩]
    rw [← hc, e3] at h
    exact h
theorem s_common {a b : Nat} {K : Int32 → Prop} (ha : a < 2 ^ 31) (hb : b < 2 ^ 31) (h : K (nI (Nat.gcd a b))) : ∀ d, b < d → pX11_common d (nI a) (nI b) K := by
  intro d hd
  induction d generalizing a b with
  | zero => exact absurd hd (Nat.not_lt_zero _)
  | succ d ih =>
    show pX11_common_b (pX11_common d) (nI a) (nI b) K
    refine ⟨fun q => ?_, fun q => ?_⟩
    · have hb0 : 0 < b := by
        rcases Nat.eq_zero_or_pos b with e | e
        · rw [e] at q
          exact absurd rfl q
        · exact e
      have hm : a % b < b := Nat.mod_lt _ hb0
      rw [pk_rem ha hb0 hb]
      refine ⟨q, ih hb (by omega) ?_ (by omega)⟩
      rw [Nat.gcd_comm a b, Nat.gcd_rec b a, Nat.gcd_comm] at h
      exact h
    · have e : b = 0 := nI_inj (b := 0) hb (by decide) q
      rw [e, Nat.gcd_zero_right] at h
      exact h
theorem cpart_gcd : ∀ n, n ≤ 8 → ∀ t, t < n → (cpart n t n ≤ 1 ↔ Nat.gcd n t ≤ 1) := by decide +kernel
theorem cpart_le : ∀ n, n ≤ 8 → ∀ t, t < n → cpart n t n ≤ 8 := by decide +kernel
theorem gcd_le8 : ∀ n, n ≤ 8 → ∀ t, t < n → Nat.gcd n t ≤ 8 := by decide +kernel
def linT (n t a b : Nat) : Nat := (((1 - (t : Int)) * a + t * b) % n).toNat
theorem linT_lt {n t a b : Nat} (h : 1 ≤ n) : linT n t a b < n := by
  unfold linT
  have h1 := Int.emod_nonneg ((1 - (t : Int)) * a + t * b) (show (n : Int) ≠ 0 by omega)
  have h2 := Int.emod_lt_of_pos ((1 - (t : Int)) * a + t * b) (show (0 : Int) < n by omega)
  omega
theorem lin_toInt {t a b : Nat} (ht : t ≤ 7) (ha : a ≤ 7) (hb : b ≤ 7) : ((1 - nI t) * nI a + nI t * nI b).toInt = (1 - (t : Int)) * a + t * b := by
  have e1 : (1 - nI t).toInt = 1 - (t : Int) := pk_sub_toInt (a := 1) (b := t) (by decide) (by omega)
  have b1 : -49 ≤ (1 - (t : Int)) * a ∧ (1 - (t : Int)) * a ≤ 49 := by
    rcases (show t = 0 ∨ t = 1 ∨ t = 2 ∨ t = 3 ∨ t = 4 ∨ t = 5 ∨ t = 6 ∨ t = 7 by omega) with rfl | rfl | rfl | rfl | rfl | rfl | rfl | rfl <;> omega
  have b2 : t * b ≤ 49 := Nat.mul_le_mul ht hb
  have e2 : ((1 - nI t) * nI a).toInt = (1 - (t : Int)) * a := by
    rw [fb_mulI, e1, nI_toInt (by omega)]
    · rw [e1, nI_toInt (by omega)]; omega
    · rw [e1, nI_toInt (by omega)]; omega
  have e3 : (nI t * nI b).toInt = t * b := by
    rw [pk_mul, nI_toInt (by omega)]
    exact Int.natCast_mul _ _
  have b3 : ((t * b : Nat) : Int) = (t : Int) * b := Int.natCast_mul _ _
  rw [fb_addI, e2, e3]
  · rw [e2, e3]; omega
  · rw [e2, e3]; omega
theorem op_line {cn : Int32} {cc : Nat → Int32} {dn : Int32} {dc : Nat → Int32} {wm : Int32} {wv : Nat → Int32} {thr mn : Int32} {mt : Nat → Int32} {wm' : Int32} {mv : Nat → Int32} {x1 x2 : Int32} (h : RelT cn cc mn mt) (hw : RelW wm wv wm' mv) :
    pX10_line cn cc dn dc wv x1 x2 (fun r cn' cc' _ _ wv' => pX11_line thr mn mt mv x1 x2 (fun r' _ mn' mt' mv' => r = r' ∧ RelT cn' cc' mn' mt' ∧ RelW wm wv' wm' mv')) := by
  have no : (¬ rg 1 8 x1 ∨ ∃ n, 1 ≤ n ∧ n ≤ 8 ∧ x1 = nI n ∧ (¬ th n x2 ∨ ∃ t, t < n ∧ x2 = nI t ∧ ¬ cpart n t n ≤ 1)) → pX11_line thr mn mt mv x1 x2 (fun r' _ mn' mt' mv' => 0 = r' ∧ RelT cn cc mn' mt' ∧ RelW wm wv wm' mv') := by
    intro hn
    refine s_inR 1 8 (by decide) (by decide) rfl rfl (fun q => y1 ?_) (fun q => y0 (z0 ⟨rfl, h, hw⟩))
    rcases hn with hn | ⟨n, h1, h8, rfl, hn⟩
    · exact absurd q hn
    · rw [show nI n - 1 = nI (n - 1) from pk_sub (a := n) (b := 1) (by omega)]
      refine s_inR 0 (n - 1) (by omega) (by decide) rfl rfl (fun q => y1 ?_) (fun q => y0 (z0 ⟨rfl, h, hw⟩))
      obtain ⟨t, _, ht, rfl⟩ := q
      have hc : ¬ cpart n t n ≤ 1 := by
        rcases hn with w | ⟨t', ht', e, w⟩
        · exact absurd ⟨t, by omega, rfl⟩ w
        · rw [nI_inj (by omega) (by omega) e]
          exact w
      refine pk_le n 1 (fun hle => ?_) (fun hlt => ?_)
      · have e : n = 1 := by omega
        subst e
        rw [show t = 0 by omega] at hc
        exact absurd (by decide) hc
      · refine s_common (by omega) (by omega) ?_ 12 (by omega)
        have hg := gcd_le8 n h8 t (by omega)
        refine pk_le (Nat.gcd n t) 1 (fun hle => absurd ((cpart_gcd n h8 t (by omega)).mpr hle) hc) (fun _ => z0 ⟨rfl, h, hw⟩)
  refine s_isSize (fun a1 => y1 ?_) (fun a1 => y0 (z0 (no (Or.inl a1))))
  obtain ⟨n, h1, h8, rfl⟩ := id a1
  refine ⟨fun c => z0 (no (Or.inr ⟨n, h1, h8, rfl, Or.inl ?_⟩)), fun c => ?_⟩
  · rintro ⟨j, hj, rfl⟩
    exact nI_pos (by omega) c
  · obtain ⟨t, ht31, rfl⟩ := nI_of c
    refine pk_le n t (fun hle => z0 (no (Or.inr ⟨n, h1, h8, rfl, Or.inl ?_⟩))) (fun htn => ?_)
    · rintro ⟨j, hj, e⟩
      have := nI_inj (by omega) (by omega) e
      omega
    · refine s_commonPart h1 h8 htn ?_
      have hcl := cpart_le n h8 t htn
      refine pk_le (cpart n t n) 1 (fun hc => ?_) (fun hc => z0 (no (Or.inr ⟨n, h1, h8, rfl, Or.inr ⟨t, htn, rfl, by omega⟩⟩)))
      refine lpW2_for n (fun a x f => x = nI a ∧ sqd n a f (linT n t)) 0 (Nat.zero_le _) ⟨nI_0.symm, fun a b ha => absurd ha (Nat.not_lt_zero _)⟩ ?_
      rintro a ha x f ⟨rfl, hI⟩ R hR
      refine pk_le n a (fun hle => ?_) (fun hlt => ?_)
      · have ea : a = n := by omega
        subst ea
        refine s_adopt (z1 ?_)
        refine s_inR 1 8 (by decide) (by decide) rfl rfl (fun _ => y1 ?_) (fun q => absurd a1 q)
        rw [show nI a - 1 = nI (a - 1) from pk_sub (a := a) (b := 1) (by omega)]
        refine s_inR 0 (a - 1) (by omega) (by decide) rfl rfl (fun _ => y1 ?_) (fun q => absurd ⟨t, by omega, by omega, rfl⟩ q)
        have go : pX11_line_46 (fun r' _ mn' mt' mv' => 1 = r' ∧ RelT (nI a) (va_cpy f cc 0 0 64) mn' mt' ∧ RelW wm (fa_fill (fun _ => 0) wv 64) wm' mv') (nI a) (nI t) 0 mn mt mv := by
          refine s_straight ?_
          refine lpW2_for a (fun b x g => x = nI b ∧ sqd a b g (linT a t)) 0 (Nat.zero_le _) ⟨nI_0.symm, fun i j hi => absurd hi (Nat.not_lt_zero _)⟩ ?_
          rintro b hb x g ⟨rfl, hJ⟩ R2 hR2
          refine pk_le a b (fun hle => ?_) (fun hlt2 => ?_)
          · have eb : b = a := by omega
            subst eb
            exact z1 ⟨rfl, ⟨b, linT b t, h1, h8, rfl, rfl, tab_cpy (fun i j hi hj => ⟨hI i j hi hj, linT_lt h1⟩) h8, fun i j hi hj => ⟨hJ i j hi hj, linT_lt h1⟩⟩, relW_flat' hw⟩
          · refine lpW2_for a (fun j x g' => x = nI j ∧ g' = fb_put g (fun j => nI (linT a t b j)) (8 * b) j) 0 (Nat.zero_le _) ⟨nI_0.symm, (fb_put_0 _ _ _).symm⟩ ?_
            rintro j hj x g' ⟨rfl, rfl⟩ R3 hR3
            refine pk_le a j (fun hle => ?_) (fun hlt3 => ?_)
            · have ej : j = a := by omega
              exact hR2 hlt2 _ _ ⟨nI_1 b, sqd_row h8 hJ (by rw [ej])⟩
            · have el := lin_toInt (t := t) (a := b) (b := j) (by omega) (by omega) (by omega)
              have b1 : -49 ≤ (1 - (t : Int)) * b ∧ (1 - (t : Int)) * b ≤ 49 := by
                rcases (show t = 0 ∨ t = 1 ∨ t = 2 ∨ t = 3 ∨ t = 4 ∨ t = 5 ∨ t = 6 ∨ t = 7 by omega) with rfl | rfl | rfl | rfl | rfl | rfl | rfl | rfl <;> omega
              have b2 : t * j ≤ 49 := Nat.mul_le_mul (show t ≤ 7 by omega) (show j ≤ 7 by omega)
              have b3 : ((t * j : Nat) : Int) = (t : Int) * j := Int.natCast_mul _ _
              refine s_floorMod (by rw [el]; omega) (by rw [el]; omega) h1 (by omega) ?_
              rw [el, ix8', nI_clamp (by omega)]
              exact ⟨vp_in_nI (by omega) (by decide), hR3 hlt3 _ _ ⟨nI_1 j, fb_put_succ g (fun j => nI (linT a t b j)) (8 * b) j⟩⟩
        refine pk_le a 1 (fun _ => go) (fun hlt => ?_)
        refine s_common (by omega) (by omega) ?_ 12 (by omega)
        have hg := gcd_le8 a h8 t htn
        exact pk_le (Nat.gcd a t) 1 (fun _ => go) (fun hgt => absurd ((cpart_gcd a h8 t htn).mp hc) (by omega))
      · refine lpW2_for n (fun j x g' => x = nI j ∧ g' = fb_put f (fun j => nI (linT n t a j)) (8 * a) j) 0 (Nat.zero_le _) ⟨nI_0.symm, (fb_put_0 _ _ _).symm⟩ ?_
        rintro j hj x g' ⟨rfl, rfl⟩ R3 hR3
        refine pk_le n j (fun hle => ?_) (fun hlt3 => ?_)
        · have ej : j = n := by omega
          exact hR hlt _ _ ⟨nI_1 a, sqd_row h8 hI (by rw [ej])⟩
        · have el := lin_toInt (t := t) (a := a) (b := j) (by omega) (by omega) (by omega)
          have b1 : -49 ≤ (1 - (t : Int)) * a ∧ (1 - (t : Int)) * a ≤ 49 := by
            rcases (show t = 0 ∨ t = 1 ∨ t = 2 ∨ t = 3 ∨ t = 4 ∨ t = 5 ∨ t = 6 ∨ t = 7 by omega) with rfl | rfl | rfl | rfl | rfl | rfl | rfl | rfl <;> omega
          have b2 : t * j ≤ 49 := Nat.mul_le_mul (show t ≤ 7 by omega) (show j ≤ 7 by omega)
          have b3 : ((t * j : Nat) : Int) = (t : Int) * j := Int.natCast_mul _ _
          refine s_floorMod (by rw [el]; omega) (by rw [el]; omega) h1 (by omega) ?_
          rw [el]
          exact e_put (by omega) (by omega) (hR3 hlt3 _ _ ⟨nI_1 j, fb_put_succ f (fun j => nI (linT n t a j)) (8 * a) j⟩)
