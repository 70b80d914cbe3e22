/-! The sieve: for each j and k at most one that moves none of 0 .. j - 1 and sends j to k. -/
def ent (N : Nat) (sc : Nat → Int32) (slot : Nat) (f : Nat → Nat) : Prop := pm N f ∧ sc slot = nI (pck f N)
def svOk (N : Nat) (sc : Nat → Int32) : Prop := ∀ slot, slot < 64 → sc slot = -1 ∨ ∃ f, ent N sc slot f ∧ slot / 8 < N ∧ (∀ i, i < slot / 8 → f i = i) ∧ f (slot / 8) = slot % 8 ∧ slot % 8 ≠ slot / 8
/-- those of the sieve from level l on -/
def SS (N : Nat) (sc : Nat → Int32) (l : Nat) (f : Nat → Nat) : Prop := ∃ slot, 8 * l ≤ slot ∧ slot < 64 ∧ ent N sc slot f
theorem pk8 {N : Nat} {f : Nat → Nat} (hN : N ≤ 8) (h : pm N f) : ∀ i, i < N → f i < 8 := fun i hi => by have := h.1 i hi; omega
theorem pck_ne1 {N : Nat} {f : Nat → Nat} (hN : N ≤ 8) (h : pm N f) : nI (pck f N) ≠ -1 := nI_neg (pck_lt31 hN (pk8 hN h))
theorem ent_eq {N : Nat} {sc : Nat → Int32} {slot : Nat} {f g : Nat → Nat} (hN : N ≤ 8) (hf : ent N sc slot f) (hg : ent N sc slot g) : eqN N f g :=
  pck_one (pk8 hN hf.1) (pk8 hN hg.1) (nI_inj (pck_lt31 hN (pk8 hN hf.1)) (pck_lt31 hN (pk8 hN hg.1)) (by rw [← hf.2, hg.2]))
theorem SS_pm {N : Nat} {sc : Nat → Int32} {l : Nat} : ∀ s, SS N sc l s → pm N s := fun _ ⟨_, _, _, h⟩ => h.1
/-- g comes behind the sieve; nothing of the sieve is lost -/
def svUp (sc sc' : Nat → Int32) : Prop := ∀ slot, slot < 64 → sc slot ≠ -1 → sc' slot = sc slot
theorem svUp_refl (sc : Nat → Int32) : svUp sc sc := fun _ _ _ => rfl
theorem svUp_trans {a b c : Nat → Int32} (h : svUp a b) (g : svUp b c) : svUp a c := fun s hs hn => by
  rw [g s hs (by rw [h s hs hn]; exact hn), h s hs hn]
theorem SS_up {N : Nat} {sc sc' : Nat → Int32} {l : Nat} {f : Nat → Nat} (hN : N ≤ 8) (h : svUp sc sc') (hf : SS N sc l f) : SS N sc' l f := by
  obtain ⟨s, s1, s2, s3⟩ := hf
  exact ⟨s, s1, s2, s3.1, by rw [h s s2 (by rw [s3.2]; exact pck_ne1 hN s3.1)]; exact s3.2⟩
theorem Mn_up {N : Nat} {sc sc' : Nat → Int32} {l : Nat} {f : Nat → Nat} (hN : N ≤ 8) (h : svUp sc sc') (hf : Mn N (SS N sc l) f) : Mn N (SS N sc' l) f :=
  Mn_sub SS_pm (fun _ hs => Mn_gen (SS_up hN h hs)) hf
theorem SS_fix {N : Nat} {sc : Nat → Int32} {l : Nat} {f : Nat → Nat} (hN : N ≤ 8) (h : svOk N sc) (hf : SS N sc l f) : ∀ i, i < l → i < N → f i = i := by
  obtain ⟨s, s1, s2, s3⟩ := hf
  intro i hi hiN
  rcases h s s2 with q | ⟨g, g1, g2, g3, -⟩
  · exact absurd (by rw [← q, s3.2]) (pck_ne1 hN s3.1).symm
  · rw [ent_eq hN s3 g1 i hiN]
    exact g3 i (by omega)
theorem Mn_fix {N : Nat} {S : (Nat → Nat) → Prop} {l : Nat} {f : Nat → Nat} (hS : ∀ s, S s → ∀ i, i < l → i < N → s i = i) (hf : Mn N S f) : ∀ i, i < l → i < N → f i = i := by
  refine hf (fun g => ∀ i, i < l → i < N → g i = i) (fun _ _ _ => rfl) (fun s g hs hg i hi hiN => ?_) (fun g h e hg i hi hiN => by rw [← e i hiN]; exact hg i hi hiN)
  show s (g i) = i
  rw [hg i hi hiN]
  exact hS s hs i hi hiN
/-- a set of rows that holds what it makes -/
def grp (N : Nat) (H : (Nat → Nat) → Prop) : Prop := (∀ f, H f → pm N f) ∧ (∀ f g, H f → H g → H (fun i => f (g i))) ∧ (∀ f, H f → H (inv N f)) ∧ ∀ f g, eqN N f g → H f → H g
theorem Mn_grp {N : Nat} {S : (Nat → Nat) → Prop} (hN : N ≤ 8) (hS : ∀ s, S s → pm N s) : grp N (Mn N S) :=
  ⟨fun _ h => Mn_pm hS h, fun _ _ hf hg => Mn_comp (Mn_pm hS hg) hf hg, fun _ h => Mn_inv hN (Mn_pm hS h) h, fun _ _ e h => Mn_cong e h⟩
theorem pm_cong {N : Nat} {f g : Nat → Nat} (e : eqN N f g) (h : pm N f) : pm N g :=
  pm_ofF (fun i hi => by rw [← e i hi]; exact h.1 i hi) (fun i j hi hj q => pm_inj h hi hj (by rw [e i hi, e j hj, q]))
theorem s_sift {N l : Nat} {g : Nat → Nat} {H : (Nat → Nat) → Prop} {sc : Nat → Int32} {K : (Nat → Int32) → Prop} (hN : N ≤ 8) (hl : l ≤ N) (hH : grp N H) (hsv : svOk N sc) (hss : ∀ s, SS N sc l s → H s) (hg : H g) (hfix : ∀ i, i < l → g i = i)
    (h : ∀ sc', svOk N sc' → svUp sc sc' → (∀ s, SS N sc' l s → H s) → (∀ slot, slot < 8 * l → sc' slot = sc slot) → Mn N (SS N sc' l) g → K sc') : pX8_sift sc (nI (pck g N)) (nI N) K := by
  refine lpW2_for N (fun j x3 x4 => x4 = nI j ∧ ∃ r m, x3 = nI (pck r N) ∧ H r ∧ (∀ i, i < j → r i = i) ∧ (∀ i, i < l → r i = i) ∧ Mn N (SS N sc l) m ∧ eqN N g (fun i => m (r i))) 0 (Nat.zero_le _) ⟨nI_0.symm, g, fun i => i, rfl, hg, fun i hi => absurd hi (Nat.not_lt_zero _), hfix, Mn_id, fun _ _ => rfl⟩ ?_
  rintro j hj x3 x4 ⟨rfl, r, m, rfl, hr, r1, r2, hm, he⟩ R hR
  have rp := hH.1 r hr
  have mp := Mn_pm SS_pm hm
  refine pk_le N j (fun hle => ?_) (fun hlt => ?_)
  · refine h sc hsv (svUp_refl sc) hss (fun _ _ => rfl) (Mn_cong (fun i hi => ?_) hm)
    rw [he i hi]
    show m i = m (r i)
    rw [r1 i (by omega)]
  · have bk := rp.1 j hlt
    refine s_imageP hN (pk8 hN rp) hlt ?_
    refine pk_eq (r j) j (fun e => hR hlt _ _ ⟨nI_1 j, r, m, rfl, hr, fun i hi => ?_, r2, hm, he⟩) (fun e => ?_)
    · rcases Nat.lt_or_ge i j with q | q
      · exact r1 i q
      · rw [show i = j by omega]
        exact e
    · have hjl : l ≤ j := by
        rcases Nat.lt_or_ge j l with q | q
        · exact absurd (r2 j q) e
        · exact q
      have e1 : (8 * j + r j) / 8 = j := by omega
      have e2 : (8 * j + r j) % 8 = r j := by omega
      rw [ix8, nI_clamp (by omega)]
      refine ⟨vp_in_nI (by omega) (by decide), fun hne => ⟨vp_in_nI (by omega) (by decide), ?_⟩, fun heq => ⟨vp_in_nI (by omega) (by decide), ?_⟩⟩
      · rcases hsv (8 * j + r j) (by omega) with q | ⟨s, s1, s2, s3, s4, s5⟩
        · exact absurd q hne
        · rw [e1] at s2 s3 s4 s5
          rw [e2] at s4 s5
          have hSs : SS N sc l s := ⟨8 * j + r j, by omega, by omega, s1⟩
          have sp := s1.1
          rw [s1.2]
          refine s_contrary hN sp (s_after hN (fun i hi => by have := (inv_ok sp hi).1; omega) rp.1 (hR hlt _ _ ⟨nI_1 j, fun i => inv N s (r i), fun i => m (s i), rfl, hH.2.1 _ _ (hH.2.2.1 _ (hss s hSs)) hr, fun i hi => ?_, fun i hi => ?_, Mn_comp sp hm (Mn_gen hSs), fun i hi => ?_⟩))
          · rcases Nat.lt_or_ge i j with q | q
            · show inv N s (r i) = i
              rw [r1 i q]
              have := inv_f sp (show i < N by omega)
              rw [s3 i q] at this
              exact this
            · have ei : i = j := by omega
              subst ei
              show inv N s (r i) = i
              have := inv_f sp hlt
              rw [s4] at this
              exact this
          · show inv N s (r i) = i
            rw [r2 i hi]
            have := inv_f sp (show i < N by omega)
            rw [s3 i (by omega)] at this
            exact this
          · show g i = m (s (inv N s (r i)))
            rw [(inv_ok sp (rp.1 i hi)).2]
            exact he i hi
      · have hup : svUp sc (upd sc (8 * j + r j) (nI (pck r N))) := fun slot _ hn => by
          have : slot ≠ 8 * j + r j := fun z => hn (by rw [z]; exact heq)
          rw [pk_un this]
        have hent : ent N (upd sc (8 * j + r j) (nI (pck r N))) (8 * j + r j) r := ⟨rp, pk_us⟩
        refine h _ (fun slot hs => ?_) hup (fun s hs => ?_) (fun slot hs => pk_un (by omega)) ?_
        · by_cases q : slot = 8 * j + r j
          · refine Or.inr ⟨r, by rw [q]; exact hent, ?_⟩
            rw [q, e1, e2]
            exact ⟨hlt, r1, rfl, e⟩
          · rcases hsv slot hs with w | ⟨f, f1, f2⟩
            · exact Or.inl (by rw [pk_un q]; exact w)
            · exact Or.inr ⟨f, ⟨f1.1, by rw [pk_un q]; exact f1.2⟩, f2⟩
        · obtain ⟨slot, q1, q2, q3⟩ := hs
          by_cases q : slot = 8 * j + r j
          · rw [q] at q3
            exact hH.2.2.2 _ _ (ent_eq hN hent q3) hr
          · exact hss s ⟨slot, q1, q2, q3.1, by rw [← q3.2, pk_un q]⟩
        · refine Mn_cong (fun i hi => (he i hi).symm) (Mn_comp (g := r) rp (Mn_up hN hup hm) (Mn_gen ⟨8 * j + r j, by omega, by omega, hent⟩))
