/-! Schreier's products, level by level. -/
theorem orb_all {N o : Nat} {S : (Nat → Nat) → Prop} {ρ : Nat → Nat} (hρ : ∀ i, i < o → ρ i < N) (hcl : ∀ i, i < o → ∀ s, S s → inO ρ o (s (ρ i))) {h : Nat → Nat} (hh : Mn N S h) : ∀ i, i < o → inO ρ o (h (ρ i)) := by
  refine hh (fun h => ∀ i, i < o → inO ρ o (h (ρ i))) (fun i hi => ⟨i, hi, rfl⟩) (fun s g hs hg i hi => ?_) (fun g k e hg i hi => ?_)
  · obtain ⟨j, j1, j2⟩ := hg i hi
    show inO ρ o (s (g (ρ i)))
    rw [← j2]
    exact hcl j j1 s hs
  · rw [← e _ (hρ i hi)]
    exact hg i hi
/-- the product that lets L stay -/
def schr (N : Nat) (c : Nat → Nat → Nat) (i' t : Nat) (s : Nat → Nat) : Nat → Nat := fun x => inv N (c i') (s (c t x))
theorem s_products {N L o : Nat} {sc car rch : Nat → Int32} {ρ : Nat → Nat} {c : Nat → Nat → Nat} {K : (Nat → Int32) → Prop} (hN : N ≤ 8) (hL : L < N) (hsv : svOk N sc) (hrs : rsP N (Mn N (SS N sc L)) L o ρ c car rch) (hcl : ∀ i, i < o → ∀ s, SS N sc L s → inO ρ o (s (ρ i)))
    (h : ∀ sc', svOk N sc' → svUp sc sc' → (∀ s, SS N sc' L s → Mn N (SS N sc L) s) → (∀ t, t < o → ∀ s, SS N sc L s → ∀ i', i' < o → s (ρ t) = ρ i' → Mn N (SS N sc' (L + 1)) (schr N c i' t s)) → K sc') : pX8_siftProducts car rch sc (nI L) (nI o) (nI N) K := by
  obtain ⟨q1, q2, q3, q4, q5, q6, q7⟩ := id hrs
  have hG : grp N (Mn N (SS N sc L)) := Mn_grp hN SS_pm
  have fixG : ∀ f, Mn N (SS N sc L) f → ∀ i, i < L → f i = i := fun f hf i hi => Mn_fix (fun s hs => SS_fix hN hsv hs) hf i hi (by omega)
  have e8 : nI L * 8 = nI (8 * L) := by rw [show (8 : Int32) = nI 8 from rfl, pk_mul, Nat.mul_comm]
  refine lpW2_for o (fun t x4 g => x4 = nI t ∧ svOk N g ∧ svUp sc g ∧ (∀ s, SS N g L s → Mn N (SS N sc L) s) ∧ ∀ t', t' < t → ∀ s, SS N sc L s → ∀ i', i' < o → s (ρ t') = ρ i' → Mn N (SS N g (L + 1)) (schr N c i' t' s)) 0 (Nat.zero_le _) ⟨nI_0.symm, hsv, svUp_refl sc, fun _ hs => Mn_gen hs, fun t' ht' => absurd ht' (Nat.not_lt_zero _)⟩ ?_
  rintro t hto x4 g ⟨rfl, g1, g2, g3, g4⟩ R hR
  refine pk_le o t (fun hle => ?_) (fun hlt => ⟨vp_in_nI (by omega) (by decide), ?_⟩)
  · exact h g g1 g2 g3 (fun t' ht' => g4 t' (by omega))
  · obtain ⟨p1, p2, p3, p4, p5⟩ := q3 t hlt
    have ctp := Mn_pm SS_pm p4
    rw [nI_clamp (by omega), p2]
    unfold pX8_siftProducts_24
    rw [e8]
    refine lpW2_for 64 (fun k x6 g => x6 = nI k ∧ 8 * L ≤ k ∧ svOk N g ∧ svUp sc g ∧ (∀ s, SS N g L s → Mn N (SS N sc L) s) ∧ (∀ t', t' < t → ∀ s, SS N sc L s → ∀ i', i' < o → s (ρ t') = ρ i' → Mn N (SS N g (L + 1)) (schr N c i' t' s)) ∧ ∀ slot, 8 * L ≤ slot → slot < k → ∀ s, ent N sc slot s → ∀ i', i' < o → s (ρ t) = ρ i' → Mn N (SS N g (L + 1)) (schr N c i' t s)) (8 * L) (by omega) ⟨rfl, Nat.le_refl _, g1, g2, g3, g4, fun slot h1 h2 => by omega⟩ ?_
    rintro k hk x6 g ⟨rfl, hLk, k1, k2, k3, k4, k5⟩ R2 hR2
    refine pk_le 64 k (fun hle => ?_) (fun hltk => ⟨vp_in_nI (by omega) (by decide), ?_⟩)
    · refine hR hlt _ _ ⟨nI_1 t, k1, k2, k3, fun t' ht' s hs i' hi' e => ?_⟩
      rcases Nat.lt_or_ge t' t with q | q
      · exact k4 t' q s hs i' hi' e
      · have et : t' = t := by omega
        subst et
        obtain ⟨slot, s1, s2, s3⟩ := hs
        exact k5 slot s1 (by omega) s s3 i' hi' e
    · rw [nI_clamp (by omega)]
      rcases k1 k hltk with q | ⟨f, f1, f2⟩
      · refine ⟨fun _ => hR2 hltk _ _ ⟨nI_1 k, by omega, k1, k2, k3, k4, fun slot s1 s2 s hs i' hi' e => ?_⟩, fun z => absurd q z⟩
        rcases Nat.lt_or_ge slot k with w | w
        · exact k5 slot s1 w s hs i' hi' e
        · exfalso
          have es : slot = k := by omega
          rw [es] at hs
          have := k2 k hltk (by rw [hs.2]; exact pck_ne1 hN hs.1)
          rw [q, hs.2] at this
          exact pck_ne1 hN hs.1 this.symm
      · have fp := f1.1
        have hfG : Mn N (SS N sc L) f := k3 f ⟨k, hLk, hltk, f1⟩
        obtain ⟨i', i1, i2⟩ := orb_all (fun i hi => (q3 i hi).1) hcl hfG t hlt
        obtain ⟨v1, v2, v3, v4, v5⟩ := q3 i' i1
        have cip := Mn_pm SS_pm v4
        refine ⟨fun z => absurd (by rw [← f1.2]; exact z) (pck_ne1 hN fp), fun _ => ⟨vp_in_nI (by omega) (by decide), vp_in_nI (by omega) (by decide), ?_⟩⟩
        rw [nI_clamp (by omega), f1.2, p3]
        have tp : pm N (fun i => f (c t i)) := hG.1 _ (hG.2.1 _ _ hfG p4)
        refine s_after hN (pk8 hN fp) ctp.1 (s_imageP hN (pk8 hN tp) hL ⟨vp_in_nI (by show f (c t L) < 8; rw [p5, ← i2]; omega) (by decide), ?_⟩)
        have eimg : f (c t L) = ρ i' := by rw [p5, i2]
        rw [eimg, nI_clamp (by omega), v3]
        refine s_contrary hN cip (s_after hN (fun i hi => by have := (inv_ok cip hi).1; omega) tp.1 ?_)
        refine s_sift (H := Mn N (SS N sc L)) (l := L + 1) (g := schr N c i' t f) hN (by omega) hG k1 (fun s hs => k3 s (by obtain ⟨slot, s1, s2, s3⟩ := hs; exact ⟨slot, by omega, s2, s3⟩)) (hG.2.1 (inv N (c i')) (fun x => f (c t x)) (hG.2.2.1 _ v4) (hG.2.1 f (c t) hfG p4)) (fun i hi => ?_) (fun g' y1 y2 y3 y4 y5 => ?_)
        · show inv N (c i') (f (c t i)) = i
          rcases Nat.lt_or_ge i L with w | w
          · rw [fixG _ p4 i w, fixG _ hfG i w]
            have := inv_f cip (show i < N by omega)
            rw [fixG _ v4 i w] at this
            exact this
          · rw [show i = L by omega, eimg]
            have := inv_f cip hL
            rw [v5] at this
            exact this
        · refine hR2 hltk _ _ ⟨nI_1 k, by omega, y1, svUp_trans k2 y2, fun s hs => ?_, fun t' ht' s hs j hj e => Mn_up hN y2 (k4 t' ht' s hs j hj e), fun slot s1 s2 s hs j hj e => ?_⟩
          · obtain ⟨slot, s1, s2, s3⟩ := hs
            rcases Nat.lt_or_ge slot (8 * (L + 1)) with w | w
            · exact k3 s ⟨slot, s1, s2, s3.1, by rw [← s3.2, y4 slot w]⟩
            · exact y3 s ⟨slot, w, s2, s3⟩
          · rcases Nat.lt_or_ge slot k with w | w
            · exact Mn_up hN y2 (k5 slot s1 w s hs j hj e)
            · have es : slot = k := by omega
              rw [es] at hs
              have hsf : eqN N s f := by
                refine ent_eq hN (sc := g) ⟨hs.1, ?_⟩ f1
                rw [k2 k hltk (by rw [hs.2]; exact pck_ne1 hN hs.1)]
                exact hs.2
              have eji : j = i' := by
                have e3 : ρ j = ρ i' := by rw [← e, hsf _ p1, i2]
                rcases Nat.lt_trichotomy j i' with z | z | z
                · exact absurd e3 (q4 j i' z i1)
                · exact z
                · exact absurd e3.symm (q4 i' j z hj)
              rw [eji]
              refine Mn_cong (fun x hx => ?_) y5
              show inv N (c i') (f (c t x)) = inv N (c i') (s (c t x))
              rw [hsf _ (ctp.1 x hx)]
theorem schreier {N L o : Nat} {S S' : (Nat → Nat) → Prop} {ρ : Nat → Nat} {c : Nat → Nat → Nat} {car rch : Nat → Int32} (hN : N ≤ 8) (hL : L < N) (hS : ∀ s, S s → pm N s) (hS' : ∀ s, S' s → pm N s) (hrs : rsP N (Mn N S) L o ρ c car rch) (hcl : ∀ i, i < o → ∀ s, S s → inO ρ o (s (ρ i)))
    (hp : ∀ t, t < o → ∀ s, S s → ∀ i', i' < o → s (ρ t) = ρ i' → Mn N S' (schr N c i' t s)) {h : Nat → Nat} (hh : Mn N S h) : ∃ i', i' < o ∧ h L = ρ i' ∧ Mn N S' (fun x => inv N (c i') (h x)) := by
  obtain ⟨q1, q2, q3, q4, q5, q6, q7⟩ := id hrs
  have key : pm N h ∧ ∃ i', i' < o ∧ h L = ρ i' ∧ Mn N S' (fun x => inv N (c i') (h x)) := by
    refine hh (fun h => pm N h ∧ ∃ i', i' < o ∧ h L = ρ i' ∧ Mn N S' (fun x => inv N (c i') (h x))) ⟨Mn_pm hS Mn_id, 0, by omega, q6.symm, Mn_cong (fun x hx => ?_) Mn_id⟩ (fun s g hs hg => ?_) (fun g k e hg => ?_)
    · have c0p := Mn_pm hS (q3 0 (by omega)).2.2.2.1
      have e9 := inv_f c0p hx
      rw [q7 x hx] at e9
      exact e9.symm
    · obtain ⟨gp, i, i1, i2, i3⟩ := hg
      obtain ⟨j, j1, j2⟩ := hcl i i1 s hs
      have sp := hS s hs
      have cip := Mn_pm hS (q3 i i1).2.2.2.1
      refine ⟨pm_ofF (fun x hx => sp.1 _ (gp.1 x hx)) (fun x y hx hy e => pm_inj gp hx hy (pm_inj sp (gp.1 x hx) (gp.1 y hy) e)), j, j1, ?_, ?_⟩
      · show s (g L) = ρ j
        rw [i2, j2]
      · have h3 := hp i i1 s hs j j1 j2.symm
        refine Mn_cong (fun x hx => ?_) (Mn_comp (Mn_pm hS' i3) h3 i3)
        show inv N (c j) (s (c i (inv N (c i) (g x)))) = inv N (c j) (s (g x))
        rw [(inv_ok cip (gp.1 x hx)).2]
    · obtain ⟨gp, i, i1, i2, i3⟩ := hg
      refine ⟨pm_cong e gp, i, i1, by rw [← e L hL]; exact i2, Mn_cong (fun x hx => ?_) i3⟩
      show inv N (c i) (g x) = inv N (c i) (k x)
      rw [e x hx]
  exact key.2
/-- one level: the sieve's rows from the next level on are those that let L stay -/
theorem level {N L o : Nat} {sc sc' car rch : Nat → Int32} {ρ : Nat → Nat} {c : Nat → Nat → Nat} (hN : N ≤ 8) (hL : L < N) (hsv' : svOk N sc') (hrs : rsP N (Mn N (SS N sc L)) L o ρ c car rch) (hcl : ∀ i, i < o → ∀ s, SS N sc L s → inO ρ o (s (ρ i)))
    (hin : ∀ s, SS N sc' L s → Mn N (SS N sc L) s) (hp : ∀ t, t < o → ∀ s, SS N sc L s → ∀ i', i' < o → s (ρ t) = ρ i' → Mn N (SS N sc' (L + 1)) (schr N c i' t s)) : cnt N (Mn N (SS N sc L)) = o * cnt N (Mn N (SS N sc' (L + 1))) := by
  obtain ⟨q1, q2, q3, q4, q5, q6, q7⟩ := id hrs
  have hO : fb_ct (fun b => dB (inO ρ o b)) N = o := by
    have hall : fb_ct (fun _ => true) o = o := fb_ct_all.mpr (fun _ _ => rfl)
    refine Nat.le_antisymm ?_ ?_
    · conv => rhs; rw [← hall]
      refine ct_inj (φ := fun b => lst ρ b o) (fun b hb hP => ⟨(lst_ok (dB_t.mp hP)).1, rfl⟩) (fun b d hb hd hP hQ e => ?_)
      have e1 := (lst_ok (dB_t.mp hP)).2
      have e2 := (lst_ok (dB_t.mp hQ)).2
      have e' : lst ρ b o = lst ρ d o := e
      rw [← e1, ← e2, e']
    · conv => lhs; rw [← hall]
      refine ct_inj (φ := ρ) (fun i hi _ => ⟨(q3 i hi).1, dB_t.mpr ⟨i, hi, rfl⟩⟩) (fun i j hi hj _ _ e => ?_)
      rcases Nat.lt_trichotomy i j with z | z | z
      · exact absurd e (q4 i j z hj)
      · exact z
      · exact absurd e.symm (q4 j i z hi)
  refine cnt_step (O := fun b => dB (inO ρ o b)) (c := fun b => c (lst ρ b o)) hN hL SS_pm hO (fun h hh => ?_) (fun b hb hOb => ?_) (fun h => ⟨fun hh => ⟨?_, ?_⟩, fun hh => ?_⟩)
  · have := orb_all (fun i hi => (q3 i hi).1) hcl hh 0 (by omega)
    rw [q6] at this
    exact dB_t.mpr this
  · obtain ⟨l1, l2⟩ := lst_ok (dB_t.mp hOb)
    obtain ⟨v1, v2, v3, v4, v5⟩ := q3 _ l1
    exact ⟨v4, by rw [v5, l2]⟩
  · refine Mn_sub SS_pm (fun s hs => hin s ?_) hh
    obtain ⟨slot, s1, s2, s3⟩ := hs
    exact ⟨slot, by omega, s2, s3⟩
  · exact Mn_fix (l := L + 1) (fun s hs => SS_fix hN hsv' hs) hh L (by omega) hL
  · obtain ⟨hh1, hh2⟩ := hh
    obtain ⟨i', i1, i2, i3⟩ := schreier hN hL SS_pm SS_pm hrs hcl hp hh1
    have e0 : i' = 0 := by
      rw [hh2, ← q6] at i2
      rcases Nat.lt_or_ge 0 i' with z | z
      · exact absurd i2 (q4 0 i' z i1)
      · omega
    subst e0
    have c0p := Mn_pm SS_pm (q3 0 (by omega)).2.2.2.1
    have hp1 := Mn_pm SS_pm hh1
    refine Mn_cong (fun x hx => ?_) i3
    have e9 := inv_f c0p (hp1.1 x hx)
    rw [q7 _ (hp1.1 x hx)] at e9
    exact e9
/-- the rows of a rack -/
def rowS (N : Nat) (T : Nat → Nat → Nat) (f : Nat → Nat) : Prop := ∃ a, a < N ∧ f = T a
theorem s_orderOf {N : Nat} {T : Nat → Nat → Nat} {cc car rch sc : Nat → Int32} {K : Int32 → (Nat → Int32) → (Nat → Int32) → (Nat → Int32) → Prop} (ht : tab cc N T) (h1 : 1 ≤ N) (hN : N ≤ 8) (hr : torn T N = none) (h : ∀ a b c, K (nI (cnt N (Mn N (rowS N T)))) a b c) : pX8_orderOf car rch sc (nI N) cc K := by
  have hT := tab_T ht
  have rp : ∀ a, a < N → pm N (T a) := fun a ha => pm_ofF (fun i hi => hT a i ha hi) (fun i j hi hj e => row_inj hT hr ha hi hj e)
  have rpS : ∀ s, rowS N T s → pm N s := fun s ⟨a, ha, e⟩ => by rw [e]; exact rp a ha
  have hG : grp N (Mn N (rowS N T)) := Mn_grp hN rpS
  refine s_fill (by decide) ?_
  refine lpW2_for N (fun a x2 g => x2 = nI a ∧ svOk N g ∧ (∀ s, SS N g 0 s → Mn N (rowS N T) s) ∧ ∀ a', a' < a → Mn N (SS N g 0) (T a')) 0 (Nat.zero_le _) ⟨nI_0.symm, fun slot hs => Or.inl (fa_fill_in hs), fun s ⟨slot, _, s2, s3⟩ => absurd (by rw [← s3.2]; exact fa_fill_in s2) (pck_ne1 hN s3.1), fun a' ha' => absurd ha' (Nat.not_lt_zero _)⟩ ?_
  rintro a ha x2 g ⟨rfl, g1, g2, g3⟩ R hR
  refine pk_le N a (fun hle => ?_) (fun hlt => ?_)
  · have heq : cnt N (Mn N (SS N g 0)) = cnt N (Mn N (rowS N T)) := cnt_cong (fun f => ⟨fun hf => Mn_sub rpS g2 hf, fun hf => Mn_sub SS_pm (fun s ⟨a', ha', e⟩ => by rw [e]; exact g3 a' (by omega)) hf⟩)
    refine lpW5_for N (fun L x2 x3 p q g => x3 = nI L ∧ svOk N g ∧ ∃ ord, x2 = nI ord ∧ ord * cnt N (Mn N (SS N g L)) = cnt N (Mn N (rowS N T))) 0 (Nat.zero_le _) ⟨nI_0.symm, g1, 1, rfl, by rw [Nat.one_mul]; exact heq⟩ ?_
    rintro L hL x2 x3 p q g ⟨rfl, g1, ord, rfl, e⟩ R2 hR2
    refine pk_le N L (fun hle2 => ?_) (fun hlt2 => ?_)
    · have eL : L = N := by omega
      subst eL
      rw [cnt_none hN (fun s ⟨slot, s1, s2, s3⟩ => by
        rcases g1 slot s2 with z | ⟨f, -, f2, -⟩
        · exact pck_ne1 hN s3.1 (by rw [← s3.2]; exact z)
        · omega), Nat.mul_one] at e
      rw [e]
      exact h _ _ _
    · refine s_reach h1 hN hlt2 g1 (fun o ρ c car' rch' hrs hcl => s_products hN hlt2 g1 hrs hcl (fun sc' y1 y2 y3 y4 => hR2 hlt2 _ _ _ _ _ ⟨nI_1 L, y1, ord * o, by rw [pk_mul], ?_⟩))
      rw [Nat.mul_assoc, ← level hN hlt2 y1 hrs hcl y3 y4]
      exact e
  · refine lpW2_for N (fun b x3 x4 => x4 = nI b ∧ x3 = nI (pck (T a) b)) 0 (Nat.zero_le _) ⟨nI_0.symm, nI_0.symm⟩ ?_
    rintro b hb x3 x4 ⟨rfl, rfl⟩ R2 hR2
    refine pk_le N b (fun hle2 => ?_) (fun hlt2 => ?_)
    · have eb : b = N := by omega
      subst eb
      refine s_sift (H := Mn b (rowS b T)) (l := 0) hN (Nat.zero_le _) hG g1 g2 (Mn_gen ⟨a, hlt, rfl⟩) (fun i hi => absurd hi (Nat.not_lt_zero _)) (fun sc' y1 y2 y3 y4 y5 => hR hlt _ _ ⟨nI_1 a, y1, y3, fun a' ha' => ?_⟩)
      rcases Nat.lt_or_ge a' a with q | q
      · exact Mn_up hN y2 (g3 a' q)
      · rw [show a' = a by omega]
        exact y5
    · have bt := hT a b hlt hlt2
      exact t_turned ht hN hlt hlt2 (s_with (by omega) (by omega) (hR2 hlt2 _ _ ⟨nI_1 b, rfl⟩))
