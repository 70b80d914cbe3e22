/-! The model's rank, and the power. -/
theorem ix64 (e j : Nat) : 64 * nI e + nI j = nI (64 * e + j) := by
  rw [show (64 : Int32) = nI 64 from rfl, pk_mul, nI_add]
theorem s_rank {p E : Nat} {A : Nat → Nat → Int} {c : Nat → Int32} {y : Nat → Nat → Nat} {K : Int32 → (Nat → Int32) → Prop} (hp : isP p) (hE : E ≤ 512) (h0 : rkI p E A 0 0 c y) (h : ∀ c', K (nI (lct p 64 A E)) c') : pX11_rank c (nI E) (nI p) K := by
  obtain ⟨p2, p8⟩ := isP_lt hp
  have hne : ¬ nI p = 0 := nI_ne0 (by omega) (by omega)
  refine lpW3_for 64 (fun col x3 x4 g => x4 = nI col ∧ ∃ dn y, x3 = nI dn ∧ dn ≤ col ∧ rkI p E A col dn g y) 0 (Nat.zero_le _) ⟨nI_0.symm, 0, y, nI_0.symm, Nat.le_refl _, h0⟩ ?_
  rintro col hcol x3 x4 g ⟨rfl, dn, y, rfl, hdc, hk⟩ R hR
  refine pk_le 64 col (fun hle => ?_) (fun hlt => ?_)
  · have e : col = 64 := by omega
    subst e
    rw [rk_end hp hk]
    exact h g
  · obtain ⟨k1, k2, k3, k4, k5, k6, k7⟩ := id hk
    have hskip : (∀ e, dn ≤ e → e < E → y e col = 0) → R (nI dn) (nI col + 1) g := fun hz => hR hlt _ _ _ ⟨nI_1 col, dn, y, rfl, by omega, rk_skip hk hz⟩
    refine lpW1_for E (fun r x5 => x5 = nI r ∧ dn ≤ r ∧ ∀ e, dn ≤ e → e < r → y e col = 0) dn k3 ⟨rfl, Nat.le_refl _, fun e h1 h2 => by omega⟩ ?_
    rintro r hr x5 ⟨rfl, hdr, hz⟩ R1 hR1
    refine pk_le E r (fun hle => ?_) (fun hlt1 => ?_)
    · have e : r = E := by omega
      subst e
      exact ⟨fun q => absurd rfl q, fun _ => hskip hz⟩
    · have br := k2 r hlt1 col hlt
      rw [ix64, nI_clamp (by omega), k1 r col hlt1 hlt]
      refine ⟨vp_in_nI (by omega) (by decide), pk_ne (y r col) 0 (by omega) (by omega) (fun e => ?_) (fun e => ?_)⟩
      · refine hR1 hlt1 _ ⟨nI_1 r, by omega, fun e' h1 h2 => ?_⟩
        rcases Nat.lt_or_ge e' r with q | q
        · exact hz e' h1 q
        · rw [show e' = r by omega]
          exact e
      · refine pk_ne r E (by omega) (by omega) (fun q => by omega) (fun _ => ?_)
        obtain ⟨b, hb, eb⟩ := isP_inv hp _ br e
        have hb1 : 1 ≤ b := by
          rcases Nat.eq_zero_or_pos b with q | q
          · rw [q, Nat.mul_zero, Nat.zero_mod] at eb
            omega
          · exact q
        refine lpW1_for b (fun f x6 => x6 = nI f) 1 hb1 rfl ?_
        rintro f hf x6 rfl R2 hR2
        have hm : f * y r col ≤ 7 * 7 := Nat.mul_le_mul (by omega) (by omega)
        have hmr : f * y r col % p < p := Nat.mod_lt _ (by omega)
        unfold pX11_rank_55
        rw [ix64, nI_clamp (by omega), k1 r col hlt1 hlt, pk_mul, pk_rem (by omega) (by omega) (by omega)]
        refine ⟨vp_in_nI (by omega) (by decide), hne, pk_eq (f * y r col % p) 1 (fun hfy => ?_) (fun hfy => hR2 ?_ _ (nI_1 f))⟩
        · refine lpW2_for 64 (fun q x7 g => x7 = nI q ∧ cont E g (fun e j => if j < q then y1M p y dn r f e j else y e j)) 0 (Nat.zero_le _) ⟨nI_0.symm, cont_cong k1 (fun e j _ _ => by rw [if_neg (Nat.not_lt_zero _)])⟩ ?_
          rintro q hq x7 g ⟨rfl, hg⟩ R3 hR3
          refine pk_le 64 q (fun hle2 => ?_) (fun hlt2 => ?_)
          · have e9 : q = 64 := by omega
            subst e9
            have hg1 : cont E g (y1M p y dn r f) := cont_cong hg (fun e j _ hj => by rw [if_pos hj])
            have y1lt : ∀ e, e < E → ∀ j, j < 64 → y1M p y dn r f e j < p := by
              intro e he j hj
              unfold y1M
              split
              · exact Nat.mod_lt _ (by omega)
              · split
                · exact k2 dn (by omega) j hj
                · exact k2 e he j hj
            refine lpW2_for E (fun e x7 g => x7 = nI e ∧ dn < e ∧ cont E g (fun e' j => if e' < e then y2M p y dn r f col e' j else y1M p y dn r f e' j)) (dn + 1) (by omega) ⟨nI_1 dn, Nat.lt_succ_self _, cont_cong hg1 (fun e' j _ _ => ?_)⟩ ?_
            · by_cases w : e' < dn + 1
              · rw [if_pos w]
                exact (if_pos (by omega)).symm
              · rw [if_neg w]
            · rintro e he x7 g ⟨rfl, hde, hg2⟩ R4 hR4
              refine pk_le E e (fun hle3 => ?_) (fun hlt3 => ?_)
              · have e9 : e = E := by omega
                subst e9
                exact hR hlt _ _ _ ⟨nI_1 col, dn + 1, y2M p y dn r f col, nI_1 dn, by omega, rk_next hp hlt hk hdr hlt1 hfy (cont_cong hg2 (fun e' j he' _ => by rw [if_pos he']))⟩
              · have bt := y1lt e hlt3 col hlt
                have et : g (64 * e + col) = nI (y1M p y dn r f e col) := (hg2 e col hlt3 hlt).trans (congrArg nI (if_neg (Nat.lt_irrefl _)))
                rw [ix64, nI_clamp (by omega), et]
                refine ⟨vp_in_nI (by omega) (by decide), ?_⟩
                refine lpW2_for 64 (fun q x9 g => x9 = nI q ∧ cont E g (fun e' j => if e' < e then y2M p y dn r f col e' j else if e' = e ∧ j < q then y2M p y dn r f col e' j else y1M p y dn r f e' j)) 0 (Nat.zero_le _) ⟨nI_0.symm, cont_cong hg2 (fun e' j _ _ => ?_)⟩ ?_
                · by_cases w : e' < e
                  · rw [if_pos w, if_pos w]
                  · rw [if_neg w, if_neg w, if_neg (fun z => absurd z.2 (Nat.not_lt_zero _))]
                · rintro q hq x9 g ⟨rfl, hg4⟩ R5 hR5
                  have done : (∀ j, j < 64 → q ≤ j → y2M p y dn r f col e j = y1M p y dn r f e j) → R4 (nI e + 1) g := fun hh => by
                    refine hR4 hlt3 _ _ ⟨nI_1 e, by omega, cont_cong hg4 (fun e' j he' hj => ?_)⟩
                    by_cases w : e' < e
                    · rw [if_pos w, if_pos (by omega)]
                    · rw [if_neg w]
                      by_cases w2 : e' = e
                      · rw [if_pos (show e' < e + 1 by omega)]
                        by_cases w3 : j < q
                        · rw [if_pos ⟨w2, w3⟩]
                        · rw [if_neg (fun z => w3 z.2), w2, hh j hj (by omega)]
                      · rw [if_neg (fun z => w2 z.1), if_neg (show ¬ e' < e + 1 by omega)]
                  refine pk_le 64 q (fun hle4 => ?_) (fun hlt4 => ?_)
                  · exact done (fun j h1 h2 => by omega)
                  · refine pk_eq (y1M p y dn r f e col) 0 (fun ez => done (fun j hj _ => ?_)) (fun ez => ?_)
                    · have bj := y1lt e hlt3 j hj
                      show (if e ≤ dn then y1M p y dn r f e j else (((y1M p y dn r f e j : Int) - (y1M p y dn r f e col : Int) * (y1M p y dn r f dn j : Int)) % (p : Int)).toNat) = _
                      rw [if_neg (by omega), ez]
                      have e8 : ((y1M p y dn r f e j : Int) - ((0 : Nat) : Int) * (y1M p y dn r f dn j : Int)) = (y1M p y dn r f e j : Int) := by simp
                      rw [e8, Int.emod_eq_of_lt (by omega) (by omega)]
                      omega
                    · have b1 := y1lt e hlt3 q hlt4
                      have b2 := y1lt dn (by omega) q hlt4
                      have hmm : y1M p y dn r f e col * y1M p y dn r f dn q ≤ 7 * 7 := Nat.mul_le_mul (by omega) (by omega)
                      have e1 : g (64 * e + q) = nI (y1M p y dn r f e q) := (hg4 e q hlt3 hlt4).trans (congrArg nI ((if_neg (Nat.lt_irrefl _)).trans (if_neg (fun z => absurd z.2 (Nat.lt_irrefl _)))))
                      have e2 : g (64 * dn + q) = nI (y1M p y dn r f dn q) := (hg4 dn q (by omega) hlt4).trans (congrArg nI ((if_pos hde).trans (if_pos (Nat.le_refl _))))
                      have ex : (nI (y1M p y dn r f e q) - nI (y1M p y dn r f e col * y1M p y dn r f dn q)).toInt = (y1M p y dn r f e q : Int) - (y1M p y dn r f e col : Int) * (y1M p y dn r f dn q : Int) := by
                        rw [pk_sub_toInt (by omega) (by omega), Int.natCast_mul]
                      have exb : ((y1M p y dn r f e col * y1M p y dn r f dn q : Nat) : Int) = (y1M p y dn r f e col : Int) * (y1M p y dn r f dn q : Int) := Int.natCast_mul _ _
                      rw [ix64, ix64, nI_clamp (by omega), nI_clamp (by omega), e1, e2, pk_mul]
                      refine ⟨vp_in_nI (by omega) (by decide), vp_in_nI (by omega) (by decide), s_floorMod (by rw [ex]; omega) (by rw [ex]; omega) (by omega) (by omega) ⟨vp_in_nI (by omega) (by decide), hR5 hlt4 _ _ ⟨nI_1 q, ?_⟩⟩⟩
                      rw [ex]
                      have ey : (((y1M p y dn r f e q : Int) - (y1M p y dn r f e col : Int) * (y1M p y dn r f dn q : Int)) % (p : Int)).toNat = y2M p y dn r f col e q := by
                        unfold y2M
                        rw [if_neg (by omega)]
                      rw [ey]
                      refine cont_cong (cont_upd hg4 e q _ hlt4) (fun e' j he' hj => ?_)
                      unfold updM
                      by_cases w : e' = e ∧ j = q
                      · rw [if_pos w, if_neg (by omega), if_pos ⟨w.1, by omega⟩, w.1, w.2]
                      · rw [if_neg w]
                        dsimp only
                        by_cases w1 : e' < e
                        · rw [if_pos w1, if_pos w1]
                        · rw [if_neg w1, if_neg w1]
                          by_cases w2 : e' = e ∧ j < q
                          · rw [if_pos w2, if_pos ⟨w2.1, by omega⟩]
                          · rw [if_neg w2, if_neg (fun z => w2 ⟨z.1, by have : j ≠ q := fun zz => w ⟨z.1, zz⟩; omega⟩)]
          · have b1 := k2 r hlt1 q hlt2
            have hmf : y r q * f ≤ 7 * 7 := Nat.mul_le_mul (by omega) (by omega)
            have e1 : g (64 * r + q) = nI (y r q) := (hg r q hlt1 hlt2).trans (congrArg nI (if_neg (Nat.lt_irrefl _)))
            have e2 : g (64 * dn + q) = nI (y dn q) := (hg dn q (by omega) hlt2).trans (congrArg nI (if_neg (Nat.lt_irrefl _)))
            rw [ix64, ix64, nI_clamp (by omega), nI_clamp (by omega), e1, e2, pk_mul, pk_rem (by omega) (by omega) (by omega)]
            refine ⟨vp_in_nI (by omega) (by decide), hne, vp_in_nI (by omega) (by decide), vp_in_nI (by omega) (by decide), vp_in_nI (by omega) (by decide), hR3 hlt2 _ _ ⟨nI_1 q, ?_⟩⟩
            refine cont_cong (cont_upd (cont_upd hg r q _ hlt2) dn q _ hlt2) (fun e' j he' hj => ?_)
            unfold updM
            by_cases w : e' = dn ∧ j = q
            · rw [if_pos w, if_pos (by omega), w.1, w.2]
              exact (if_pos rfl).symm
            · rw [if_neg w]
              by_cases w1 : e' = r ∧ j = q
              · rw [if_pos w1, if_pos (by omega), w1.1, w1.2]
                unfold y1M
                rw [if_neg (fun z => w ⟨by rw [w1.1, z], w1.2⟩), if_pos rfl]
              · rw [if_neg w1]
                dsimp only
                by_cases w2 : j < q
                · rw [if_pos w2, if_pos (by omega)]
                · rw [if_neg w2]
                  by_cases w3 : j < q + 1
                  · have ej : j = q := by omega
                    rw [if_pos w3]
                    unfold y1M
                    rw [if_neg (fun z => w ⟨z, ej⟩), if_neg (fun z => w1 ⟨z, ej⟩)]
                  · rw [if_neg w3]
        · have : f ≠ b := fun z => hfy (by rw [z, Nat.mul_comm]; exact eb)
          omega
theorem lct_ro {p N : Nat} {T : Nat → Nat → Nat} (hN : N ≤ 8) (hT : ∀ a b, a < N → b < N → T a b < N) : lct p (N * N) (fun e u => Av T N e (ro N u)) (N * N * N) = lct p 64 (Av T N) (N * N * N) := by
  obtain ⟨h1, h2⟩ := LL_skip (p := p) (U := 64) (U' := N * N) (k := N * N * N) (A := Av T N) (ρ := ro N) (fun u hu => ro_lt hN hu) (fun u w huw hw => ro_mono hN huw hw) (fun e he j _ hn => Av_out hN hT he hn)
  unfold lct
  refine Nat.le_antisymm ?_ ?_
  · refine ct_inj (φ := ro N) (fun u hu hP => ⟨ro_lt hN hu, dB_t.mpr ((h1 u hu).mp (dB_t.mp hP))⟩) (fun u w hu hw _ _ e => ?_)
    rcases Nat.lt_trichotomy u w with q | q | q
    · have := ro_mono hN q hw
      omega
    · exact q
    · have := ro_mono hN q hu
      omega
  · refine ct_inj (φ := fun j => lst (ro N) j (N * N)) (fun j hj hP => ?_) (fun j k hj hk hP hQ e => ?_)
    · obtain ⟨q1, q2⟩ := lst_ok (h2 j (dB_t.mp hP))
      refine ⟨q1, dB_t.mpr ((h1 _ q1).mpr ?_)⟩
      rw [q2]
      exact dB_t.mp hP
    · have e1 := (lst_ok (h2 j (dB_t.mp hP))).2
      have e2 := (lst_ok (h2 k (dB_t.mp hQ))).2
      have e' : lst (ro N) j (N * N) = lst (ro N) k (N * N) := e
      rw [← e1, ← e2, e']
theorem s_powerM {p N : Nat} {T : Nat → Nat → Nat} {thr : Int32} {mh mo mt me : Nat → Int32} {K : Int32 → Int32 → (Nat → Int32) → (Nat → Int32) → (Nat → Int32) → Prop} (ht : tab mt N T) (h1 : 1 ≤ N) (hN : N ≤ 8) (hp : isP p) (h : ∀ c', K (nI (N * N) - nI (lct p 64 (Av T N) (N * N * N))) thr c' mh mo) :
    lpW2 (pX11_power_62 (nI N) mt K (nI p) thr mh mo) (0 : Int32) me := by
  obtain ⟨p2, p8⟩ := isP_lt hp
  have hT := tab_T ht
  have h512 : N * N * N ≤ 512 := Nat.mul_le_mul (Nat.mul_le_mul hN hN) hN
  refine lpW2_for 32768 (fun i x3 c => x3 = nI i ∧ ∀ k, k < i → c k = 0) 0 (Nat.zero_le _) ⟨nI_0.symm, fun k hk => absurd hk (Nat.not_lt_zero _)⟩ ?_
  rintro i hi x3 c ⟨rfl, hc⟩ R hR
  refine pk_le 32768 i (fun hle => ?_) (fun hlt => ?_)
  · have e : i = 32768 := by omega
    subst e
    let I : Nat → (Nat → Int32) → Prop := fun k c => ∃ y, cont (N * N * N) c y ∧ (∀ e, e < k → res p 64 (y e) (Av T N e)) ∧ ∀ e, k ≤ e → ∀ j, y e j = 0
    have hI0 : I 0 c := ⟨fun _ _ => 0, fun e j he hj => hc _ (by omega), fun e he => absurd he (Nat.not_lt_zero _), fun _ _ _ => rfl⟩
    refine lpW3_for N (fun a x3 x4 c => x4 = nI a ∧ x3 = nI (a * N * N) ∧ I (a * N * N) c) 0 (Nat.zero_le _) ⟨nI_0.symm, by rw [Nat.zero_mul, Nat.zero_mul]; rfl, by rw [Nat.zero_mul, Nat.zero_mul]; exact hI0⟩ ?_
    rintro a ha x3 x4 c ⟨rfl, rfl, hI⟩ R1 hR1
    refine pk_le N a (fun hle1 => ?_) (fun hlt1 => ?_)
    · have e : a = N := by omega
      subst e
      obtain ⟨y, y1, y2, y3⟩ := hI
      refine s_rank (A := Av T a) (y := y) hp h512 ⟨y1, fun e he j hj => (y2 e he j hj).1, Nat.zero_le _, fun e he => ?_, fun e he => ?_, ⟨fun _ => 0, fun i hi => absurd hi (Nat.not_lt_zero _), fun i k _ hk => absurd hk (Nat.not_lt_zero _)⟩, fun e _ _ j hj => absurd hj (Nat.not_lt_zero _)⟩ (fun c' => ?_)
      · exact Wk_cong (fun j hj => dv_eq (by omega) (Int.dvd_neg.mpr (y2 e he j hj).2)) (Wk_gen (A := Av T a) he)
      · exact Wk_cong (fun j hj => (y2 e he j hj).2) (Wk_gen (A := fun e j => (y e j : Int)) he)
      · rw [pk_mul]
        exact h c'
    · refine lpW3_for N (fun b x3 x5 c => x5 = nI b ∧ x3 = nI ((a * N + b) * N) ∧ I ((a * N + b) * N) c) 0 (Nat.zero_le _) ⟨nI_0.symm, rfl, hI⟩ ?_
      rintro b hb x3 x5 c ⟨rfl, rfl, hI⟩ R2 hR2
      refine pk_le N b (fun hle2 => ?_) (fun hlt2 => ?_)
      · have e : b = N := by omega
        subst e
        have e9 : (a * b + b) * b = (a + 1) * b * b := by rw [Nat.add_mul a 1 b, Nat.one_mul]
        exact hR1 hlt1 _ _ _ ⟨nI_1 a, by rw [e9], by rw [← e9]; exact hI⟩
      · refine lpW3_for N (fun d x3 x6 c => x6 = nI d ∧ x3 = nI ((a * N + b) * N + d) ∧ I ((a * N + b) * N + d) c) 0 (Nat.zero_le _) ⟨nI_0.symm, rfl, hI⟩ ?_
        rintro d hd x3 x6 c ⟨rfl, rfl, y, y1, y2, y3⟩ R3 hR3
        refine pk_le N d (fun hle3 => ?_) (fun hlt3 => ?_)
        · have e : d = N := by omega
          subst e
          have e9 : (a * d + b) * d + d = (a * d + (b + 1)) * d := by rw [← Nat.add_assoc, Nat.add_mul (a * d + b) 1 d, Nat.one_mul]
          exact hR2 hlt2 _ _ _ ⟨nI_1 b, by rw [e9], y, y1, by rw [← e9]; exact y2, by rw [← e9]; exact y3⟩
        · have he : (a * N + b) * N + d < N * N * N := by
            have q1 := ix_lt hlt1 hlt2
            have q2 : (a * N + b + 1) * N ≤ N * N * N := Nat.mul_le_mul_right N q1
            rw [Nat.add_mul, Nat.one_mul] at q2
            omega
          have t1 := hT b d hlt2 hlt3
          have t2 := hT a b hlt1 hlt2
          have t3 := hT a d hlt1 hlt3
          have r0 : res p 64 (y ((a * N + b) * N + d)) (fun _ => 0) := fun u hu => by
            rw [y3 _ (Nat.le_refl _) u]
            exact ⟨by omega, by simp⟩
          refine s_adds (t := 1) p2 p8 h512 he (by omega) (by omega) rfl rfl rfl rfl (Or.inl rfl) y1 r0 (fun c1 z1 k1 o1 r1 => ?_)
          refine t_by ht hN hlt2 hlt3 (s_adds (t := 1) p2 p8 h512 he (by omega) (by omega) rfl rfl rfl rfl (Or.inl rfl) k1 r1 (fun c2 z2 k2 o2 r2 => ?_))
          refine s_adds (t := -1) p2 p8 h512 he (by omega) (by omega) rfl rfl rfl rfl (Or.inr rfl) k2 r2 (fun c3 z3 k3 o3 r3 => ?_)
          refine t_by ht hN hlt1 hlt2 (t_by ht hN hlt1 hlt3 (s_adds (t := -1) p2 p8 h512 he (by omega) (by omega) rfl rfl rfl rfl (Or.inr rfl) k3 r3 (fun c4 z4 k4 o4 r4 => ?_)))
          have oo : ∀ e, e ≠ (a * N + b) * N + d → z4 e = y e := fun e hne => by rw [o4 e hne, o3 e hne, o2 e hne, o1 e hne]
          refine hR3 hlt3 _ _ _ ⟨nI_1 d, nI_1 _, z4, k4, fun e hlt4 => ?_, fun e hge j => ?_⟩
          · by_cases q : e = (a * N + b) * N + d
            · rw [q, Av_at hlt2 hlt3]
              refine res_cong r4 (fun u hu => ?_)
              unfold eqv
              omega
            · rw [oo e q]
              exact y2 e (by omega)
          · rw [oo e (by omega)]
            exact y3 e (by omega) j
  · refine ⟨vp_in_nI (by omega) (by decide), hR hlt _ _ ⟨nI_1 i, fun k hk => ?_⟩⟩
    rw [nI_clamp (by omega)]
    by_cases e : k = i
    · rw [e, pk_us]
    · rw [pk_un e]
      exact hc k (by omega)
theorem op_power {kn : Int32} {kl km : Nat → Int32} {cn : Int32} {cc : Nat → Int32} {a1 a2 a3 : Int32} {a4 : Int64} {a5 a6 : Nat → Int32} {thr mn : Int32} {me mh mo mt : Nat → Int32} {x1 x2 : Int32} (h : RelT cn cc mn mt) :
    pX10_power kn kl km cn cc a1 a2 a3 a4 a5 a6 x1 x2 (fun r _ _ _ _ _ _ _ _ _ => pX11_power thr mn me mh mo mt x1 x2 (fun r' _ _ _ _ => r = r')) := by
  obtain ⟨N, T, h1, h8, rfl, rfl, hx, hm⟩ := h
  have hT := tab_T hx
  have h64 : N * N ≤ 64 := Nat.mul_le_mul h8 h8
  have mod : ∀ r p, x1 = nI p → isP p → pX11_power_26 (nI N) mt (fun r' _ _ _ _ => r = r') x1 x2 0 me mh mo → pX11_power thr (nI N) me mh mo mt x1 x2 (fun r' _ _ _ _ => r = r') := by
    intro r p e hp hh
    obtain ⟨p2, p8⟩ := isP_lt hp
    refine ⟨fun _ => hh, fun n2 => ⟨fun _ => hh, fun n3 => ⟨fun _ => hh, fun n5 => ⟨fun n7 => ?_, fun _ => hh⟩⟩⟩⟩
    exfalso
    rw [e] at n2 n3 n5 n7
    rcases hp with q | q | q | q
    · exact n2 (by rw [q]; rfl)
    · exact n3 (by rw [q]; rfl)
    · exact n5 (by rw [q]; rfl)
    · exact n7 (by rw [q]; rfl)
  have go : ∀ p, x1 = nI p → isP p → pX10_power_26 (nI N) cc (fun r _ _ _ _ _ _ _ _ _ => pX11_power thr (nI N) me mh mo mt x1 x2 (fun r' _ _ _ _ => r = r')) x1 x2 1 kn kl km a1 a2 a3 a4 a5 a6 := by
    intro p e hp
    have no : ¬ rg 0 1 x2 → pX11_power thr (nI N) me mh mo mt x1 x2 (fun r' _ _ _ _ => (-1 : Int32) = r') := fun hn => mod _ p e hp (s_inR 0 1 (by decide) (by decide) rfl rfl (fun q => absurd q hn) (fun _ => y0 rfl))
    by_cases hg : rg 0 1 x2
    · obtain ⟨w, -, hw, rfl⟩ := id hg
      refine ⟨fun q => absurd q (by decide), fun _ => ⟨fun q => absurd q (nI_pos (by omega)), fun _ => ⟨fun q => absurd q (nI_nlt (a := 1) (by omega) (by decide)), fun _ => ?_⟩⟩⟩
      refine s_isRack hx h8 (fun hk => y1' ?_) (fun hk => y0' (mod _ p e hp (s_inR 0 1 (by decide) (by decide) rfl rfl (fun _ => y1 (s_isRackM hm h8 (fun q => absurd q hk) (fun _ => y0' rfl))) (fun q => absurd hg q))))
      obtain ⟨M, hM⟩ := orb_ex (N := N) hT
      have hr := rk_le M N
      refine pk_ne w 0 (by omega) (by omega) (fun ew => ?_) (fun ew => ?_)
      · subst ew
        rw [e]
        refine s_closedPower hx h1 h8 hp (fun _ _ _ _ _ _ => ?_)
        rw [← e]
        refine mod _ p e hp (s_inR 0 1 (by decide) (by decide) rfl rfl (fun _ => y1 (s_isRackM hm h8 (fun _ => y1' ⟨fun _ => ?_, fun q => absurd q (by decide)⟩) (fun q => absurd hk q))) (fun q => absurd hg q))
        rw [e]
        refine s_powerM hm h1 h8 hp (fun c' => ?_)
        have hle : lct p (N * N) (fun e u => Av T N e (ro N u)) (N * N * N) ≤ N * N := fb_ct_le _ _
        rw [lct_ro h8 hT] at hle ⊢
        exact (pk_sub hle).symm
      · have ew1 : w = 1 := by omega
        subst ew1
        refine s_orbX h8 hx hM (fun ld nm _ => ?_)
        refine mod _ p e hp (s_inR 0 1 (by decide) (by decide) rfl rfl (fun _ => y1 (s_isRackM hm h8 (fun _ => y1' ⟨fun q => absurd rfl q, fun _ => ?_⟩) (fun q => absurd hk q))) (fun q => absurd hg q))
        exact s_orbM h8 hm hM (fun h' o' _ => rfl)
    · have hg' := hg
      rw [rg_iff (by decide)] at hg'
      refine ⟨fun q => absurd q (by decide), fun _ => ⟨fun _ => no hg, fun c => ⟨fun _ => no hg, fun c2 => ?_⟩⟩⟩
      rw [i_lt, Int32.toInt_zero] at c
      rw [i_lt, show (1 : Int32).toInt = 1 from rfl] at c2
      omega
  refine ⟨fun e => go 2 e (Or.inl rfl), fun n2 => ⟨fun e => go 3 e (Or.inr (Or.inl rfl)), fun n3 => ⟨fun e => go 5 e (Or.inr (Or.inr (Or.inl rfl))), fun n5 => ⟨fun n7 => ?_, fun e => go 7 e (Or.inr (Or.inr (Or.inr rfl)))⟩⟩⟩⟩
  refine ⟨fun _ => ?_, fun q => absurd rfl q⟩
  exact ⟨fun e => absurd e n2, fun _ => ⟨fun e => absurd e n3, fun _ => ⟨fun e => absurd e n5, fun _ => ⟨fun _ => rfl, fun e => absurd e n7⟩⟩⟩⟩
