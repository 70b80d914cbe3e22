/-! Permutations in one number: image, product, contrary. -/
theorem s_imageP {f : Nat → Nat} {n i : Nat} {K : Int32 → Prop} (hn : n ≤ 8) (hf : ∀ i, i < n → f i < 8) (hi : i < n) (h : K (nI (f i))) : pX5_image (nI (pck f n)) (nI i) K :=
  s_image (pck_lt31 hn hf) (by omega) (by rw [pck_at hf hi]; exact h)
theorem s_after {f g : Nat → Nat} {n : Nat} {K : Int32 → Prop} (hn : n ≤ 8) (hf : ∀ i, i < n → f i < 8) (hg : ∀ i, i < n → g i < n) (h : K (nI (pck (fun i => f (g i)) n))) : pX5_after (nI (pck f n)) (nI (pck g n)) (nI n) K := by
  refine lpW2_for n (fun i x3 x4 => x4 = nI i ∧ x3 = nI (pck (fun i => f (g i)) i)) 0 (Nat.zero_le _) ⟨nI_0.symm, nI_0.symm⟩ ?_
  rintro i hi x3 x4 ⟨rfl, rfl⟩ R hR
  refine pk_le n i (fun hle => ?_) (fun hlt => ?_)
  · have e : i = n := by omega
    subst e
    exact h
  · have b1 := hg i hlt
    have b2 := hf _ b1
    refine s_imageP hn (fun i hi => by have := hg i hi; omega) hlt (s_imageP hn hf b1 (s_with (by omega) b2 (hR hlt _ _ ⟨nI_1 i, rfl⟩)))
theorem pck_cong {f g : Nat → Nat} : ∀ {n : Nat}, (∀ i, i < n → f i = g i) → pck f n = pck g n
  | 0, _ => rfl
  | n + 1, h => by
    show pck f n ||| f n * 8 ^ n = pck g n ||| g n * 8 ^ n
    rw [pck_cong (fun i hi => h i (by omega)), h n (by omega)]
theorem pck_one {f g : Nat → Nat} {n : Nat} (hf : ∀ i, i < n → f i < 8) (hg : ∀ i, i < n → g i < 8) (h : pck f n = pck g n) : ∀ i, i < n → f i = g i := fun i hi => by
  rw [← pck_at hf hi, h, pck_at hg hi]
theorem pck_set {c : Nat → Nat} {j v : Nat} (h0 : c j = 0) : ∀ {n : Nat}, j < n → pck (updN c j v) n = pck c n ||| v * 8 ^ j
  | 0, hj => absurd hj (Nat.not_lt_zero _)
  | n + 1, hj => by
    show pck (updN c j v) n ||| updN c j v n * 8 ^ n = (pck c n ||| c n * 8 ^ n) ||| v * 8 ^ j
    rcases Nat.lt_or_ge j n with q | q
    · rw [pck_set h0 q, show updN c j v n = c n from if_neg (by omega), Nat.or_assoc, Nat.or_assoc, Nat.or_comm (v * 8 ^ j)]
    · have e : j = n := by omega
      subst e
      rw [pck_cong (f := updN c j v) (g := c) (fun i hi => if_neg (by omega)), show updN c j v j = v from if_pos rfl, h0, Nat.zero_mul, Nat.or_zero]
theorem lst_none {f : Nat → Nat} {v : Nat} : ∀ {k : Nat}, (∀ i, i < k → f i ≠ v) → lst f v k = 0
  | 0, _ => rfl
  | k + 1, h => by
    unfold lst
    rw [if_neg (h k (by omega))]
    exact lst_none (fun i hi => h i (by omega))
theorem s_contrary {f : Nat → Nat} {n : Nat} {K : Int32 → Prop} (hn : n ≤ 8) (hf : pm n f) (h : K (nI (pck (inv n f) n))) : pX5_contrary (nI (pck f n)) (nI n) K := by
  have h8 : ∀ i, i < n → f i < 8 := fun i hi => by have := hf.1 i hi; omega
  refine lpW2_for n (fun k x2 x3 => x3 = nI k ∧ x2 = nI (pck (fun j => lst f j k) n)) 0 (Nat.zero_le _) ⟨nI_0.symm, ?_⟩ ?_
  · have : pck (fun j => lst f j 0) n = 0 := by
      have z : ∀ m, pck (fun j => lst f j 0) m = 0 := by
        intro m
        induction m with
        | zero => rfl
        | succ m ih =>
          show pck (fun j => lst f j 0) m ||| 0 * 8 ^ m = 0
          rw [ih, Nat.zero_mul]
          rfl
      exact z n
    rw [this]
    rfl
  · rintro k hk x2 x3 ⟨rfl, rfl⟩ R hR
    refine pk_le n k (fun hle => ?_) (fun hlt => ?_)
    · have e : k = n := by omega
      subst e
      exact h
    · have b := hf.1 k hlt
      refine s_imageP hn h8 hlt (s_with (by omega) (by omega) (hR hlt _ _ ⟨nI_1 k, ?_⟩))
      have e0 : lst f (f k) k = 0 := lst_none (fun i hi => hf.2 i k hi hlt)
      rw [← pck_set (c := fun j => lst f j k) (v := k) e0 b]
      congr 1
      refine pck_cong (fun j hj => ?_)
      show (if j = f k then k else lst f j k) = if f k = j then k else lst f j k
      by_cases e : j = f k
      · rw [if_pos e, if_pos e.symm]
      · rw [if_neg e, if_neg (fun z => e z.symm)]
/-! conjugates among the permutations of four things -/
def cnj (n : Nat) (f g : Nat → Nat) (i : Nat) : Nat := f (g (inv n f i))
theorem cnj_pm {n : Nat} {f g : Nat → Nat} (hf : pm n f) (hg : pm n g) : pm n (cnj n f g) :=
  pm_ofF (fun i hi => hf.1 _ (hg.1 _ (inv_ok hf hi).1)) (fun i j hi hj e => by
    have e1 := pm_inj hf (hg.1 _ (inv_ok hf hi).1) (hg.1 _ (inv_ok hf hj).1) e
    have e2 := pm_inj hg (inv_ok hf hi).1 (inv_ok hf hj).1 e1
    rw [← (inv_ok hf hi).2, ← (inv_ok hf hj).2, e2])
def cj (q r : Nat) : Nat := rnk 4 (cnj 4 (pdg 4 q) (pdg 4 r))
def pdt (q k : Nat) : Nat := 669236436005411928080145373044091295208890640391302853860 >>> (2 * (4 * q + k)) % 4
def cyt (q : Nat) : Nat := 353332668378494482238811497547765956 >>> (5 * q) % 32
def cjt (q r : Nat) : Nat := 681188519550814258144670366448846265628690762184746472237259295376474659757335940737571947770710912014710355457486560015414312040819103787884399322915850225712732939192788953690038729402941400706660264683659678042068705595318734437749697375541690589938218547115269209909351486362003172500541028658536640136130123046446471502167097353873017552173026200685198899817709473805436433780014042619062919142246155446485297925679089364085216443734127378213546761282800781506268677010197766145389508064125029421622312052905290526154111197268574899138002737473365650154913416686675172361125361053378277574351819365890625675397431210789455845815403550524646387787441372605266535274227690274844604203332859833736378008950710434095285636075691749531606097934482347373037199467055416288944373164991740525602143729742674920865366671595125210865575244016053018751548439940173549111328 >>> (5 * (24 * q + r)) % 32
theorem pdt_ok : ∀ q, q < 24 → ∀ k, k < 4 → pdg 4 q k = pdt q k := by decide +kernel
theorem cjt_ok : ∀ q, q < 24 → ∀ r, r < 24 → cjt q r < 24 ∧ ∀ x, x < 4 → pdt (cjt q r) (pdt q x) = pdt q (pdt r x) := by decide +kernel
theorem cyt_cj : ∀ q, q < 24 → ∀ r, r < 24 → cyt (cjt q r) = cyt r := by decide +kernel
theorem cyt_on : ∀ p, p < 24 → ∀ q, q < 24 → cyt q = cyt p → (findO (fun r => if cjt r p = q then some r else none) 24).isSome = true := by decide +kernel
theorem cyt_ct : ∀ p, p < 24 → 1 ≤ fb_ct (fun q => cyt q == cyt p) 24 ∧ fb_ct (fun q => cyt q == cyt p) 24 ≤ 8 := by decide +kernel
theorem cj_eq {q r : Nat} (hq : q < 24) (hr : r < 24) : cj q r = cjt q r := by
  obtain ⟨h1, h2⟩ := cjt_ok q hq r hr
  have pq := pdg_pm (m := 4) (by decide) (show q < fac 4 from hq)
  have pr := pdg_pm (m := 4) (by decide) (show r < fac 4 from hr)
  unfold cj
  rw [rnk_cong (g := pdg 4 (cjt q r)) (fun i hi => ?_), rnk_pdg (by decide) (show cjt q r < fac 4 from h1)]
  obtain ⟨i1, i2⟩ := inv_ok pq hi
  unfold cnj
  have e := h2 _ i1
  rw [← pdt_ok q hq _ i1, ← pdt_ok r hr _ i1, i2] at e
  have b := pr.1 _ i1
  rw [← pdt_ok q hq _ b, ← pdt_ok _ h1 i hi] at e
  exact e.symm
def cyl (f : Nat → Nat) (i : Nat) : Nat → Nat → Nat → Nat
  | 0, _, l => l
  | u + 1, j, l => if j = i then l else if 4 ≤ l then l else cyl f i u (f j) (l + 1)
def cys (f : Nat → Nat) : Nat := fb_sm (fun i => cyl f i 4 (f i) 1) 4
theorem cyt_ok : ∀ q, q < 24 → cys (pdg 4 q) = cyt q := by decide +kernel
theorem s_cycleSum {f : Nat → Nat} {K : Int32 → Prop} (hf : ∀ i, i < 4 → f i < 4) (h : K (nI (cys f))) : pX10_cycleSum (nI (pck f 4)) K := by
  have h8 : ∀ i, i < 4 → f i < 8 := fun i hi => by have := hf i hi; omega
  refine lpW2_for 4 (fun i x1 x2 => x2 = nI i ∧ x1 = nI (fb_sm (fun i => cyl f i 4 (f i) 1) i)) 0 (Nat.zero_le _) ⟨nI_0.symm, nI_0.symm⟩ ?_
  rintro i hi x1 x2 ⟨rfl, rfl⟩ R hR
  refine pk_le 4 i (fun hle => ?_) (fun hlt => ?_)
  · have e : i = 4 := by omega
    subst e
    exact h
  · refine s_imageP (by decide) h8 hlt ?_
    refine lpW2_for 4 (fun t x3 x4 => x3 = nI (t + 1) ∧ ∃ j, j < 4 ∧ x4 = nI j ∧ cyl f i (4 - t) j (t + 1) = cyl f i 4 (f i) 1) 0 (Nat.zero_le _) ⟨rfl, f i, hf i hlt, rfl, rfl⟩ ?_
    rintro t ht x3 x4 ⟨rfl, j, hj, rfl, hc⟩ R2 hR2
    have fin : cyl f i 4 (f i) 1 = t + 1 → pX10_cycleSum_43 R K (nI (pck f 4)) (nI (fb_sm (fun i => cyl f i 4 (f i) 1) i)) (nI i) (nI (t + 1)) := fun e => by
      refine hR hlt _ _ ⟨nI_1 i, ?_⟩
      rw [nI_add, fb_sm_succ, e]
    refine pk_eq j i (fun e => fin ?_) (fun e => pk_le 4 (t + 1) (fun hle => fin ?_) (fun hlt2 => ?_))
    · rw [← hc]
      cases e2 : 4 - t with
      | zero => rfl
      | succ u =>
        unfold cyl
        rw [if_pos e]
    · rw [← hc]
      cases e2 : 4 - t with
      | zero => rfl
      | succ u =>
        unfold cyl
        rw [if_neg e, if_pos hle]
    · refine s_imageP (by decide) h8 hj (hR2 (by omega) _ _ ⟨nI_1 (t + 1), f j, hf j hj, rfl, ?_⟩)
      rw [← hc, show 4 - t = (4 - (t + 1)) + 1 by omega]
      conv => rhs; unfold cyl
      rw [if_neg e, if_neg (by omega)]
/-! the class of p -/
def sz (p k : Nat) : Nat := fb_ct (fun q => cyt q == cyt p) k
def mb (p a : Nat) : Nat := (findO (fun q => if cyt q = cyt p ∧ sz p q = a then some q else none) 24).getD 0
theorem mb_ok {p a : Nat} (h : a < sz p 24) : mb p a < 24 ∧ cyt (mb p a) = cyt p ∧ sz p (mb p a) = a := by
  obtain ⟨r, hr, e1, e2⟩ := fb_ct_kth h
  have e1' : cyt r = cyt p := by simpa using e1
  unfold mb
  cases e : findO (fun q => if cyt q = cyt p ∧ sz p q = a then some q else none) 24 with
  | none =>
    have := findO_none.mp e r hr
    rw [if_pos ⟨e1', e2⟩] at this
    cases this
  | some q =>
    obtain ⟨j, hj, e3, -⟩ := findO_some e
    split at e3
    · cases e3
      rename_i w
      exact ⟨hj, w.1, w.2⟩
    · cases e3
theorem sz_lt {p q : Nat} (hq : q < 24) (e : cyt q = cyt p) : sz p q < sz p 24 := by
  have h1 : sz p (q + 1) = sz p q + 1 := by
    unfold sz
    rw [fb_ct_succ]
    simp [e]
  have h2 : sz p (q + 1) ≤ sz p 24 := fb_ct_mono _ (by omega)
  omega
theorem sz_inj {p q r : Nat} (hq : cyt q = cyt p) (hr : cyt r = cyt p) (e : sz p q = sz p r) : q = r :=
  fb_ct_kth_one (p := fun q => cyt q == cyt p) (by simpa using hq) (by simpa using hr) e
def grT (p a b : Nat) : Nat := sz p (cjt (mb p a) (mb p b))
theorem grT_lt {p a b : Nat} (ha : a < sz p 24) (hb : b < sz p 24) : grT p a b < sz p 24 := by
  obtain ⟨a1, a2, a3⟩ := mb_ok ha
  obtain ⟨b1, b2, b3⟩ := mb_ok hb
  exact sz_lt (cjt_ok _ a1 _ b1).1 (by rw [cyt_cj _ a1 _ b1, b2])
theorem cyt_lt (q : Nat) : cyt q < 32 := Nat.mod_lt _ (by decide)
theorem s_gather {p : Nat} {pe : Nat → Int32} {K : Int32 → (Nat → Int32) → Prop} (hp : p < 24) (h : ∀ pe', (∀ q, q < 24 → cyt q = cyt p → pe' (sz p q) = nI (pck (pdg 4 q) 4)) → K (nI (sz p 24)) pe') : pX10_gatherPeers pe (nI p) K := by
  have hz : sz p 24 ≤ 8 := (cyt_ct p hp).2
  have p4 : ∀ q, q < 24 → ∀ i, i < 4 → pdg 4 q i < 4 := fun q hq => (pdg_pm (m := 4) (by decide) (show q < fac 4 from hq)).1
  refine s_numbered (m := 4) (by decide) (by decide) (show p < fac 4 from hp) (s_cycleSum (p4 p hp) ?_)
  rw [cyt_ok p hp]
  refine lpW3_for 24 (fun k x3 x4 f => x4 = nI k ∧ x3 = nI (sz p k) ∧ ∀ q, q < k → cyt q = cyt p → f (sz p q) = nI (pck (pdg 4 q) 4)) 0 (Nat.zero_le _) ⟨nI_0.symm, nI_0.symm, fun q hq => absurd hq (Nat.not_lt_zero _)⟩ ?_
  rintro k hk x3 x4 f ⟨rfl, rfl, hf⟩ R hR
  have l1 := cyt_lt k
  have l2 := cyt_lt p
  have hsk : sz p k ≤ 24 := Nat.le_trans (fb_ct_le _ _) hk
  refine ⟨vp_in_nI (n := 4) (by decide) (by decide), pk_le 24 k (fun hle => ?_) (fun hlt => ?_)⟩
  · have e : k = 24 := by omega
    subst e
    exact h f hf
  · refine s_numbered (m := 4) (by decide) (by decide) (show k < fac 4 from hlt) (s_cycleSum (p4 k hlt) ?_)
    rw [cyt_ok k hlt]
    refine pk_ne (cyt k) (cyt p) (by omega) (by omega) (fun e => ?_) (fun e => ?_)
    · have hs := sz_lt hlt e
      refine ⟨fun q => absurd q (nI_ge (show sz p k < 8 by omega) (by decide)), fun _ => ⟨vp_in_nI (by omega) (by decide), ?_⟩⟩
      rw [nI_clamp (by omega)]
      refine hR hlt _ _ _ ⟨nI_1 k, ?_, fun q hq eq => ?_⟩
      · have : sz p (k + 1) = sz p k + 1 := by
          unfold sz
          rw [fb_ct_succ]
          simp [e]
        rw [this]
        exact nI_1 _
      · rcases Nat.lt_or_ge q k with c | c
        · have : sz p q ≠ sz p k := fun z => by
            have := sz_inj eq e z
            omega
          rw [pk_un this]
          exact hf q c eq
        · rw [show q = k by omega, pk_us]
    · refine hR hlt _ _ _ ⟨nI_1 k, ?_, fun q hq eq => ?_⟩
      · have : sz p (k + 1) = sz p k := by
          unfold sz
          rw [fb_ct_succ]
          simp [e]
        rw [this]
      · have : q ≠ k := fun z => e (z ▸ eq)
        exact hf q (by omega) eq
theorem s_peerOf {p r : Nat} {g : Nat → Nat} {pe : Nat → Int32} {K : Int32 → Prop} (hp : p < 24) (hr : r < 24) (er : cyt r = cyt p) (hg : ∀ i, i < 4 → g i = pdg 4 r i) (hpe : ∀ q, q < 24 → cyt q = cyt p → pe (sz p q) = nI (pck (pdg 4 q) 4)) (h : K (nI (sz p r))) : pX10_peerOf pe (nI (pck g 4)) (nI (sz p 24)) K := by
  have hz : sz p 24 ≤ 8 := (cyt_ct p hp).2
  have p4 : ∀ q, q < 24 → ∀ i, i < 4 → pdg 4 q i < 8 := fun q hq i hi => by have := (pdg_pm (m := 4) (by decide) (show q < fac 4 from hq)).1 i hi; omega
  have hs := sz_lt hr er
  rw [pck_cong hg]
  refine lpW2_for (sz p 24) (fun j x3 x4 => x4 = nI j ∧ x3 = nI (if sz p r < j then sz p r else 0)) 0 (Nat.zero_le _) ⟨nI_0.symm, nI_0.symm⟩ ?_
  rintro j hj x3 x4 ⟨rfl, rfl⟩ R hR
  refine pk_le (sz p 24) j (fun hle => ?_) (fun hlt => ?_)
  · rw [if_pos (by omega)]
    exact h
  · obtain ⟨m1, m2, m3⟩ := mb_ok hlt
    have e := hpe _ m1 m2
    rw [m3] at e
    refine ⟨vp_in_nI (by omega) (by decide), ?_⟩
    rw [nI_clamp (by omega), e]
    refine pk_ne _ _ (pck_lt31 (by decide) (p4 _ m1)) (pck_lt31 (by decide) (p4 _ hr)) (fun q => ?_) (fun q => ?_)
    · have e2 : mb p j = r := pdg_one (m := 4) (by decide) m1 hr (pck_one (p4 _ m1) (p4 _ hr) q)
      have e3 : sz p r = j := by rw [← e2, m3]
      refine hR hlt _ _ ⟨nI_1 j, ?_⟩
      rw [if_pos (by omega), e3]
    · have e2 : sz p r ≠ j := fun z => q (by
        have : mb p j = r := sz_inj m2 er (by rw [m3, z])
        rw [this])
      refine hR hlt _ _ ⟨nI_1 j, ?_⟩
      by_cases c : sz p r < j
      · rw [if_pos c, if_pos (by omega)]
      · rw [if_neg c, if_neg (by omega)]
theorem s_groupX {p : Nat} {cn dn : Int32} {cc dc pe wv : Nat → Int32} {K : Int32 → Int32 → (Nat → Int32) → Int32 → (Nat → Int32) → (Nat → Int32) → (Nat → Int32) → Prop} (hp : p < 24) (h : ∀ dc' pe', tab dc' (sz p 24) (grT p) → K (nI (sz p 24)) (nI (sz p 24)) (va_cpy dc' cc 0 0 64) (nI (sz p 24)) dc' pe' (fa_fill (fun _ => 0) wv 64)) : pX10_group cn cc dn dc pe wv (nI p) K := by
  have hz : sz p 24 ≤ 8 := (cyt_ct p hp).2
  refine ⟨fun q => absurd q (nI_pos (by omega)), fun _ => ⟨vp_in_nI (n := 4) (by decide) (by decide), fun _ => ?_, fun q => absurd (nI_lt hp (by decide)) q⟩⟩
  refine s_gather hp (fun pe' hpe => ?_)
  refine lpW2_for (sz p 24) (fun i x2 f => x2 = nI i ∧ ∀ a b, a < i → b < sz p 24 → f (8 * a + b) = nI (grT p a b)) 0 (Nat.zero_le _) ⟨nI_0.symm, fun a b ha => absurd ha (Nat.not_lt_zero _)⟩ ?_
  rintro i hi x2 f ⟨rfl, hf⟩ R hR
  refine pk_le (sz p 24) i (fun hle => ?_) (fun hlt => ?_)
  · have e : i = sz p 24 := by omega
    subst e
    exact s_adopt (h f pe' (fun a b ha hb => ⟨hf a b ha hb, grT_lt ha hb⟩))
  · obtain ⟨a1, a2, a3⟩ := mb_ok hlt
    have ea := hpe _ a1 a2
    rw [a3] at ea
    have pa := pdg_pm (m := 4) (by decide) (show mb p i < fac 4 from a1)
    refine ⟨vp_in_nI (by omega) (by decide), ?_⟩
    rw [nI_clamp (by omega), ea]
    refine s_contrary (n := 4) (by decide) pa ?_
    refine lpW2_for (sz p 24) (fun j x4 g => x4 = nI j ∧ (∀ a b, a < i → b < sz p 24 → g (8 * a + b) = nI (grT p a b)) ∧ ∀ b, b < j → g (8 * i + b) = nI (grT p i b)) 0 (Nat.zero_le _) ⟨nI_0.symm, hf, fun b hb => absurd hb (Nat.not_lt_zero _)⟩ ?_
    rintro j hj x4 g ⟨rfl, hg1, hg2⟩ R2 hR2
    refine pk_le (sz p 24) j (fun hle2 => ?_) (fun hlt2 => ?_)
    · have e : j = sz p 24 := by omega
      subst e
      refine hR hlt _ _ ⟨nI_1 i, fun a b ha hb => ?_⟩
      rcases Nat.lt_or_ge a i with q | q
      · exact hg1 a b q hb
      · rw [show a = i by omega]
        exact hg2 b hb
    · obtain ⟨b1, b2, b3⟩ := mb_ok hlt2
      have eb := hpe _ b1 b2
      rw [b3] at eb
      have pb := pdg_pm (m := 4) (by decide) (show mb p j < fac 4 from b1)
      obtain ⟨c1, -⟩ := cjt_ok _ a1 _ b1
      have cc2 := cyt_cj _ a1 _ b1
      have hgl := grT_lt hlt hlt2
      refine ⟨vp_in_nI (by omega) (by decide), ?_⟩
      rw [nI_clamp (by omega), eb]
      refine s_after (n := 4) (by decide) (fun k hk => by have := pb.1 k hk; omega) (fun k hk => (inv_ok pa hk).1) ⟨vp_in_nI (by omega) (by decide), ?_⟩
      rw [nI_clamp (by omega), ea]
      refine s_after (n := 4) (by decide) (fun k hk => by have := pa.1 k hk; omega) (fun k hk => pb.1 _ (inv_ok pa hk).1) ?_
      refine s_peerOf (r := cjt (mb p i) (mb p j)) hp c1 (by rw [cc2, b2]) (fun k hk => ?_) hpe ?_
      · rw [← cj_eq a1 b1]
        exact (pdg_rnk (m := 4) (by decide) (cnj_pm pa pb) k hk).symm
      · refine e_put (by omega) (by omega) (hR2 hlt2 _ _ ⟨nI_1 j, fun a b ha hb => ?_, fun b hb => ?_⟩)
        · rw [pk_un (by omega)]
          exact hg1 a b ha hb
        · rcases Nat.lt_or_ge b j with q | q
          · rw [pk_un (by omega)]
            exact hg2 b q
          · rw [show b = j by omega, pk_us]
            rfl
theorem s_turnedBy {q r : Nat} {mf mg mh : Nat → Int32} {K : Int32 → (Nat → Int32) → (Nat → Int32) → (Nat → Int32) → Prop} (hq : q < 24) (hr : r < 24) (h : ∀ f g h', K (nI (cjt q r)) f g h') : pX11_turnedBy mf mg mh (nI q) (nI r) K := by
  have pq := pdg_pm (m := 4) (by decide) (show q < fac 4 from hq)
  have pr := pdg_pm (m := 4) (by decide) (show r < fac 4 from hr)
  refine s_permutation (m := 4) (by decide) (by decide) (by decide) (by decide) (show q < fac 4 from hq) (s_permutation (m := 4) (by decide) (by decide) (by decide) (by decide) (show r < fac 4 from hr) ?_)
  refine lpW2_for 4 (fun k x3 f => x3 = nI k ∧ ∀ x, x < k → f (pdg 4 q x) = nI (pdg 4 q (pdg 4 r x))) 0 (Nat.zero_le _) ⟨nI_0.symm, fun x hx => absurd hx (Nat.not_lt_zero _)⟩ ?_
  rintro k hk x3 f ⟨rfl, hf⟩ R hR
  refine pk_le 4 k (fun hle => ?_) (fun hlt => ?_)
  · have e : k = 4 := by omega
    subst e
    refine s_numberOf (m := 4) (by decide) (by decide) (by decide) (f := cnj 4 (pdg 4 q) (pdg 4 r)) (fun v hv => ?_) (cnj_pm pq pr) ?_
    · obtain ⟨i1, i2⟩ := inv_ok pq hv
      have e := hf _ i1
      rw [i2] at e
      exact e
    · have e := cj_eq hq hr
      unfold cj at e
      rw [e]
      exact h _ _ _
  · have b1 := pr.1 k hlt
    have b2 := pq.1 k hlt
    have b3 := pq.1 _ b1
    rw [nI_clamp (by omega), fa_fill_in hlt, fa_fill_in hlt, nI_clamp (by omega), nI_clamp (by omega), fa_fill_in b1]
    refine ⟨vp_in_nI (by omega) (by decide), vp_in_nI (by omega) (by decide), vp_in_nI (by omega) (by decide), vp_in_nI (by omega) (by decide), hR hlt _ _ ⟨nI_1 k, fun x hx => ?_⟩⟩
    rcases Nat.lt_or_ge x k with c | c
    · have : pdg 4 q x ≠ pdg 4 q k := pq.2 x k c hlt
      rw [pk_un this]
      exact hf x c
    · rw [show x = k by omega, pk_us]
theorem like_bit {p q : Nat} (hp : p < 24) (hq : q < 24) : (msk (fun r => cjt r p) 24).testBit q = true ↔ cyt q = cyt p := by
  rw [msk_bit]
  constructor
  · rintro ⟨r, hr, e⟩
    rw [← e, cyt_cj r hr p hp]
  · intro e
    have h := cyt_on p hp q hq e
    cases e2 : findO (fun r => if cjt r p = q then some r else none) 24 with
    | none =>
      rw [e2] at h
      cases h
    | some r =>
      obtain ⟨i, hi, e3, -⟩ := findO_some e2
      split at e3
      · rename_i w
        exact ⟨i, hi, w⟩
      · cases e3
theorem s_groupM {p : Nat} {thr mn : Int32} {mf mg mh mb' mt mv : Nat → Int32} {K : Int32 → Int32 → Int32 → (Nat → Int32) → (Nat → Int32) → (Nat → Int32) → (Nat → Int32) → (Nat → Int32) → (Nat → Int32) → Prop} (hp : p < 24) (h : ∀ f g h' m' mt', tab mt' (sz p 24) (grT p) → K (nI (sz p 24)) 0 (nI (sz p 24)) f g h' m' mt' (fa_fill (fun _ => 0) mv 64)) : pX11_group thr mn mf mg mh mb' mt mv (nI p) K := by
  have hz : sz p 24 ≤ 8 := (cyt_ct p hp).2
  have hml : msk (fun r => cjt r p) 24 < 2 ^ 24 := msk_lt (fun r hr => (cjt_ok r hr p hp).1)
  refine s_inR 0 23 (by decide) (by decide) rfl rfl (fun _ => y1' ?_) (fun q => absurd ⟨p, Nat.zero_le _, by omega, rfl⟩ q)
  refine lpW5_for 24 (fun k x2 x3 f g h' => x3 = nI k ∧ x2 = nI (msk (fun r => cjt r p) k)) 0 (Nat.zero_le _) ⟨nI_0.symm, nI_0.symm⟩ ?_
  rintro k hk x2 x3 f g h' ⟨rfl, rfl⟩ R hR
  refine pk_le 24 k (fun hle => ?_) (fun hlt => ?_)
  · have e : k = 24 := by omega
    subst e
    refine lpW3_for 24 (fun k x3 x4 m => x4 = nI k ∧ x3 = nI (sz p k) ∧ ∀ q, q < k → cyt q = cyt p → m (sz p q) = nI q) 0 (Nat.zero_le _) ⟨nI_0.symm, nI_0.symm, fun q hq => absurd hq (Nat.not_lt_zero _)⟩ ?_
    rintro k hk x3 x4 m ⟨rfl, rfl, hm⟩ R1 hR1
    refine pk_le 24 k (fun hle1 => ?_) (fun hlt1 => ?_)
    · have e : k = 24 := by omega
      subst e
      have hmb : ∀ a, a < sz p 24 → m a = nI (mb p a) := fun a ha => by
        obtain ⟨a1, a2, a3⟩ := mb_ok ha
        have := hm _ a1 a2
        rw [a3] at this
        exact this
      refine s_straight ?_
      refine lpW5_for (sz p 24) (fun i x4 f g h' t => x4 = nI i ∧ ∀ a b, a < i → b < sz p 24 → t (8 * a + b) = nI (grT p a b)) 0 (Nat.zero_le _) ⟨nI_0.symm, fun a b ha => absurd ha (Nat.not_lt_zero _)⟩ ?_
      rintro i hi x4 f g h' t ⟨rfl, ht⟩ R2 hR2
      refine pk_le (sz p 24) i (fun hle2 => ?_) (fun hlt2 => ?_)
      · have e : i = sz p 24 := by omega
        subst e
        exact h f g h' m t (fun a b ha hb => ⟨ht a b ha hb, grT_lt ha hb⟩)
      · obtain ⟨a1, a2, a3⟩ := mb_ok hlt2
        refine lpW5_for (sz p 24) (fun j x5 f g h' t => x5 = nI j ∧ (∀ a b, a < i → b < sz p 24 → t (8 * a + b) = nI (grT p a b)) ∧ ∀ b, b < j → t (8 * i + b) = nI (grT p i b)) 0 (Nat.zero_le _) ⟨nI_0.symm, ht, fun b hb => absurd hb (Nat.not_lt_zero _)⟩ ?_
        rintro j hj x5 f g h' t ⟨rfl, ht1, ht2⟩ R3 hR3
        refine pk_le (sz p 24) j (fun hle3 => ?_) (fun hlt3 => ?_)
        · have e : j = sz p 24 := by omega
          subst e
          refine hR2 hlt2 _ _ _ _ _ ⟨nI_1 i, fun a b ha hb => ?_⟩
          rcases Nat.lt_or_ge a i with q | q
          · exact ht1 a b q hb
          · rw [show a = i by omega]
            exact ht2 b hb
        · obtain ⟨b1, b2, b3⟩ := mb_ok hlt3
          obtain ⟨c1, -⟩ := cjt_ok _ a1 _ b1
          have cc2 := cyt_cj _ a1 _ b1
          have hgl := grT_lt hlt2 hlt3
          refine ⟨vp_in_nI (by omega) (by decide), vp_in_nI (by omega) (by decide), ?_⟩
          rw [nI_clamp (by omega), nI_clamp (by omega), hmb i hlt2, hmb j hlt3]
          refine s_turnedBy a1 b1 (fun f g h' => ?_)
          refine lpW2_for (sz p 24) (fun u x7 t => x7 = nI u ∧ (∀ a b, a < i → b < sz p 24 → t (8 * a + b) = nI (grT p a b)) ∧ (∀ b, b < j → t (8 * i + b) = nI (grT p i b)) ∧ (grT p i j < u → t (8 * i + j) = nI (grT p i j))) 0 (Nat.zero_le _) ⟨nI_0.symm, ht1, ht2, fun q => absurd q (Nat.not_lt_zero _)⟩ ?_
          rintro u hu x7 t ⟨rfl, hu1, hu2, hu3⟩ R4 hR4
          refine pk_le (sz p 24) u (fun hle4 => ?_) (fun hlt4 => ?_)
          · refine hR3 hlt3 _ _ _ _ _ ⟨nI_1 j, hu1, fun b hb => ?_⟩
            rcases Nat.lt_or_ge b j with q | q
            · exact hu2 b q
            · rw [show b = j by omega]
              exact hu3 (by omega)
          · obtain ⟨d1, d2, d3⟩ := mb_ok hlt4
            refine ⟨vp_in_nI (by omega) (by decide), ?_⟩
            rw [nI_clamp (by omega), hmb u hlt4]
            refine pk_ne (mb p u) (cjt (mb p i) (mb p j)) (by omega) (by omega) (fun e => ?_) (fun e => ?_)
            · have eu : grT p i j = u := by
                unfold grT
                rw [← e, d3]
              rw [ix8']
              refine ⟨vp_in_nI (by omega) (by decide), ?_⟩
              rw [nI_clamp (by omega)]
              refine hR4 hlt4 _ _ ⟨nI_1 u, fun a b ha hb => ?_, fun b hb => ?_, fun _ => ?_⟩
              · rw [pk_un (by omega)]
                exact hu1 a b ha hb
              · rw [pk_un (by omega)]
                exact hu2 b hb
              · rw [pk_us, eu]
            · refine hR4 hlt4 _ _ ⟨nI_1 u, hu1, hu2, fun q => hu3 ?_⟩
              have : grT p i j ≠ u := fun z => e (sz_inj d2 (by rw [cc2, b2]) (by rw [d3, ← z]; rfl))
              omega
    · have hs9 : sz p k ≤ 24 := Nat.le_trans (fb_ct_le _ _) hk
      rw [n_tb (by omega) (by omega)]
      by_cases e : cyt k = cyt p
      · rw [if_pos ((like_bit hp hlt1).mpr e)]
        have hs := sz_lt hlt1 e
        refine ⟨fun q => absurd rfl q, fun _ => ⟨vp_in_nI (by omega) (by decide), ?_⟩⟩
        rw [nI_clamp (by omega)]
        refine hR1 hlt1 _ _ _ ⟨nI_1 k, ?_, fun q hq eq => ?_⟩
        · have : sz p (k + 1) = sz p k + 1 := by
            unfold sz
            rw [fb_ct_succ]
            simp [e]
          rw [this]
          exact nI_1 _
        · rcases Nat.lt_or_ge q k with c | c
          · have : sz p q ≠ sz p k := fun z => by
              have := sz_inj eq e z
              omega
            rw [pk_un this]
            exact hm q c eq
          · rw [show q = k by omega, pk_us]
      · rw [if_neg (fun q => e ((like_bit hp hlt1).mp q))]
        refine ⟨fun _ => hR1 hlt1 _ _ _ ⟨nI_1 k, ?_, fun q hq eq => ?_⟩, fun q => absurd q (by decide)⟩
        · have : sz p (k + 1) = sz p k := by
            unfold sz
            rw [fb_ct_succ]
            simp [e]
          rw [this]
        · have : q ≠ k := fun z => e (z ▸ eq)
          exact hm q (by omega) eq
  · refine s_turnedBy hlt hp (fun f g h' => hR hlt _ _ _ _ _ ⟨nI_1 k, ?_⟩)
    exact n_msk (f := fun r => cjt r p) (N := 24) (cjt_ok k hlt p hp).1 (by decide)
theorem op_group {cn : Int32} {cc : Nat → Int32} {dn : Int32} {dc pe : Nat → Int32} {wm : Int32} {wv : Nat → Int32} {thr mn : Int32} {mf mg mh mb' mt : Nat → Int32} {wm' : Int32} {mv : Nat → Int32} {x1 : Int32} (h : RelT cn cc mn mt) (hw : RelW wm wv wm' mv) :
    pX10_group cn cc dn dc pe wv x1 (fun r a b _ _ _ w => pX11_group thr mn mf mg mh mb' mt mv x1 (fun r' _ a' _ _ _ _ b' w' => r = r' ∧ RelT a b a' b' ∧ RelW wm w wm' w')) := by
  have no : ¬ rg 0 23 x1 → pX11_group thr mn mf mg mh mb' mt mv x1 (fun r' _ a' _ _ _ _ b' w' => (-1 : Int32) = r' ∧ RelT cn cc a' b' ∧ RelW wm wv wm' w') := fun hn =>
    s_inR 0 23 (by decide) (by decide) rfl rfl (fun q => absurd q hn) (fun _ => y0' ⟨rfl, h, hw⟩)
  by_cases hg : rg 0 23 x1
  · obtain ⟨p, -, hp, rfl⟩ := id hg
    have hp' : p < 24 := by omega
    refine s_groupX hp' (fun dc' pe' hdc => s_groupM hp' (fun f g h' m' mt' hmt => ⟨rfl, ⟨sz p 24, grT p, (cyt_ct p hp').1, (cyt_ct p hp').2, rfl, rfl, tab_cpy hdc (cyt_ct p hp').2, hmt⟩, relW_flat' hw⟩))
  · have hg' := hg
    rw [rg_iff (by decide)] at hg'
    refine ⟨fun _ => no hg, fun c => ⟨vp_in_nI (n := 4) (by decide) (by decide), fun c2 => ?_, fun _ => no hg⟩⟩
    rw [i_lt, Int32.toInt_zero] at c
    rw [i_lt, show (fct (Int32.toNatClampNeg (4 : Int32))).toInt = 24 from rfl] at c2
    omega
