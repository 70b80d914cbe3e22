/-! The two calls that may throw. -/
theorem up_L0 {o : Nat → Int64} {k : Nat} {v : Int64} : vp_updL o k v k = v := by
  unfold vp_updL
  exact if_pos rfl
theorem r_at {n : Int32} {t : Nat → Int32} {K : Int32 → Int32 → Prop} {thr : Int32} (h : K 0 1) : pX11_at_30 n t K thr := h
theorem r_ref {thr : Int32} {K : Int32 → Int32 → Prop} (h : K 0 1) : pX11_refuse thr K := h
theorem op_at {cn : Int32} {cc : Nat → Int32} {thr mn : Int32} {mt : Nat → Int32} {x1 x2 : Int32} {o : Nat → Int64} (h : RelT cn cc mn mt) : pX10_at cn cc x1 x2 (fun r => pX11_at thr mn mt x1 x2 (fun b' t' => t' = (0 : Int32) ∧ ((0 : Int32) = 0 → (vp_updL o (Int32.toNatClampNeg 0) (Int32.toInt64 r)) (Int32.toNatClampNeg 0) = Int32.toInt64 b'))) (pX11_at thr mn mt x1 x2 (fun b' t' => t' = (1 : Int32) ∧ ((1 : Int32) = 0 → o (Int32.toNatClampNeg 0) = Int32.toInt64 b'))) := by
  obtain ⟨N, T, h1, h8, rfl, rfl, hx, hm⟩ := h
  have hN : N < 2 ^ 31 := by omega
  refine s_has hN (fun a1 => y1 ?_) (fun a1 => y0 ?_)
  · refine s_has hN (fun a2 => y1' ?_) (fun a2 => y0' ?_)
    · obtain ⟨a, ha, rfl⟩ := id a1
      obtain ⟨b, hb, rfl⟩ := id a2
      refine t_turned hx h8 ha hb ?_
      refine s_isThing h1 hN (fun _ => y1 ?_) (fun q => absurd a1 q)
      refine s_isThing h1 hN (fun _ => y1 ?_) (fun q => absurd a2 q)
      exact t_by hm h8 ha hb ⟨rfl, fun _ => up_L0⟩
    · refine s_isThing h1 hN (fun _ => y1 ?_) (fun q => absurd a1 q)
      exact s_isThing h1 hN (fun q => absurd q a2) (fun _ => y0 (r_at ⟨rfl, fun q => absurd q (by decide)⟩))
  · exact s_isThing h1 hN (fun q => absurd q a1) (fun _ => y0 (r_at ⟨rfl, fun q => absurd q (by decide)⟩))
theorem nI_lessI {n : Nat} (h8 : n ≤ 8) : (nI n - 1).toInt = (n : Int) - 1 := by
  rcases (show n = 0 ∨ n = 1 ∨ n = 2 ∨ n = 3 ∨ n = 4 ∨ n = 5 ∨ n = 6 ∨ n = 7 ∨ n = 8 by omega) with rfl | rfl | rfl | rfl | rfl | rfl | rfl | rfl | rfl <;> decide
theorem s_inRow {n : Nat} {x1 : Int32} {K : Int32 → Prop} (h8 : n ≤ 8) (k1 : th n x1 → K 1) (k0 : ¬ th n x1 → K 0) : pX11_in x1.toInt64 (0 : Int64) (nI n - 1).toInt64 K := by
  rw [th_iff (by omega)] at k1 k0
  refine s_in32 (lo := 0) (hi := nI n - 1) rfl rfl (fun q => k1 ?_) (fun q => k0 ?_)
  · rw [nI_lessI h8, Int32.toInt_zero] at q
    omega
  · rw [nI_lessI h8, Int32.toInt_zero] at q
    omega
theorem op_row {tc : Int32} {td : Nat → Int32} {thr rn : Int32} {rr : Nat → Int32} {x1 : Int32} {o : Nat → Int64} (h : RelR tc td rn rr) : pX10_row tc td x1 (fun r => pX11_row thr rn rr x1 (fun b' t' => t' = (0 : Int32) ∧ ((0 : Int32) = 0 → (vp_updL o (Int32.toNatClampNeg 0) (Int32.toInt64 r)) (Int32.toNatClampNeg 0) = Int32.toInt64 b'))) (pX11_row thr rn rr x1 (fun b' t' => t' = (1 : Int32) ∧ ((1 : Int32) = 0 → o (Int32.toNatClampNeg 0) = Int32.toInt64 b'))) := by
  obtain ⟨n, h8, rfl, rfl, hr⟩ := h
  have hn : (nI n).toInt = (n : Int) := nI_toInt (by omega)
  have hit := th_iff (N := n) (show n < 2 ^ 31 by omega) x1
  refine ⟨fun c => ?_, fun c => ⟨fun c2 => ?_, fun c2 => ?_⟩⟩
  · rw [Int32.lt_iff_toInt_lt, Int32.toInt_zero] at c
    have q : ¬ th n x1 := by
      rw [hit]
      omega
    exact s_inRow h8 (fun z => absurd z q) (fun _ => y0 (r_ref ⟨rfl, fun q => absurd q (by decide)⟩))
  · rw [Int32.lt_iff_toInt_lt, Int32.toInt_zero] at c
    rw [Int32.lt_iff_toInt_lt, hn] at c2
    have q : th n x1 := by
      rw [hit]
      omega
    clear hit
    obtain ⟨j, hj, rfl⟩ := id q
    refine ⟨vp_in_nI (by omega) (by decide), ?_⟩
    refine s_inRow h8 (fun _ => y1 ⟨vp_in_nI (by omega) (by decide), rfl, fun _ => ?_⟩) (fun z => absurd q z)
    rw [up_L0, nI_clamp (by omega), hr j hj]
  · rw [Int32.lt_iff_toInt_lt, Int32.toInt_zero] at c
    rw [Int32.lt_iff_toInt_lt, hn] at c2
    have q : ¬ th n x1 := by
      rw [hit]
      omega
    exact s_inRow h8 (fun z => absurd z q) (fun _ => y0 (r_ref ⟨rfl, fun q => absurd q (by decide)⟩))
