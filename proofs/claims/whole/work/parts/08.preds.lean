/-! What must hold for each method to end in K: written by the program wip/gen out of the bytecode. -/
def pJ9_floorMod_7cf53 (x0 : Int32) (x1 : Int32) (K : Int32 → Prop) : Prop :=
  (¬ x1 = 0 ∧ ((0 ≤ (x0 ^^^ x1) → (K (x0 - x0 / x1 * x1))) ∧ (¬ 0 ≤ (x0 ^^^ x1) → (((x0 - x0 / x1 * x1) = 0 → (K (x0 - x0 / x1 * x1))) ∧ (¬ (x0 - x0 / x1 * x1) = 0 → (K ((x0 - x0 / x1 * x1) + x1)))))))

def pJ7_fill_53178_5 (N_p0 : Nat) (K : (Nat → Int32) → Prop) (x1 : Int32) (x3 : Int32) (x2 : Int32) (p0 : Nat → Int32) (R5 : Int32 → (Nat → Int32) → Prop) : Prop :=
  ((x3 ≤ x2 → (K p0)) ∧ (¬ x3 ≤ x2 → (vp_in x2 N_p0 ∧ (R5 (x2 + 1) (upd p0 (Int32.toNatClampNeg x2) x1)))))

def pJ7_fill_53178 (N_p0 : Nat) (p0 : Nat → Int32) (x1 : Int32) (K : (Nat → Int32) → Prop) : Prop :=
  (lpW2 (pJ7_fill_53178_5 N_p0 K x1 (Int32.ofNat N_p0)) (0 : Int32) p0)

def pX1_split_7 (K : Int32 → (Nat → Int32) → Prop) (t_n : Int32) (x2 : Int32) (t_leader : Nat → Int32) (R7 : Int32 → (Nat → Int32) → Prop) : Prop :=
  ((t_n ≤ x2 → (K t_n t_leader)) ∧ (¬ t_n ≤ x2 → (vp_in x2 8 ∧ (R7 (x2 + 1) (upd t_leader (Int32.toNatClampNeg x2) x2)))))

def pX1_split (t_n : Int32) (t_leader : Nat → Int32) (x1 : Int32) (K : Int32 → (Nat → Int32) → Prop) : Prop :=
  (lpW2 (pX1_split_7 K x1) (0 : Int32) t_leader)

def pX1_areOne (t_leader : Nat → Int32) (x1 : Int32) (x2 : Int32) (K : Int32 → Prop) : Prop :=
  (vp_in x1 8 ∧ (vp_in x2 8 ∧ ((¬ (t_leader (Int32.toNatClampNeg x1)) = (t_leader (Int32.toNatClampNeg x2)) → (zb (0 : Int32) ∧ K (0 : Int32))) ∧ ((t_leader (Int32.toNatClampNeg x1)) = (t_leader (Int32.toNatClampNeg x2)) → (zb (1 : Int32) ∧ K (1 : Int32))))))

def pX1_join_36 (t_n : Int32) (K : Int32 → (Nat → Int32) → Prop) (x3 : Int32) (x4 : Int32) (x5 : Int32) (t_leader : Nat → Int32) (R36 : Int32 → (Nat → Int32) → Prop) : Prop :=
  ((t_n ≤ x5 → ((x3 = x4 → (zb (0 : Int32) ∧ K (0 : Int32) t_leader)) ∧ (¬ x3 = x4 → (zb (1 : Int32) ∧ K (1 : Int32) t_leader)))) ∧ (¬ t_n ≤ x5 → (vp_in x5 8 ∧ ((¬ (t_leader (Int32.toNatClampNeg x5)) = x4 → (R36 (x5 + 1) t_leader)) ∧ ((t_leader (Int32.toNatClampNeg x5)) = x4 → (vp_in x5 8 ∧ (R36 (x5 + 1) (upd t_leader (Int32.toNatClampNeg x5) x3))))))))

def pX1_join (t_n : Int32) (t_leader : Nat → Int32) (x1 : Int32) (x2 : Int32) (K : Int32 → (Nat → Int32) → Prop) : Prop :=
  (vp_in x1 8 ∧ (vp_in x2 8 ∧ (vp_in x1 8 ∧ (vp_in x2 8 ∧ (lpW2 (pX1_join_36 t_n K (if (t_leader (Int32.toNatClampNeg x2)) < (t_leader (Int32.toNatClampNeg x1)) then (t_leader (Int32.toNatClampNeg x2)) else (t_leader (Int32.toNatClampNeg x1))) (if (t_leader (Int32.toNatClampNeg x1)) < (t_leader (Int32.toNatClampNeg x2)) then (t_leader (Int32.toNatClampNeg x2)) else (t_leader (Int32.toNatClampNeg x1)))) (0 : Int32) t_leader)))))

def pX1_number_4 (t_n : Int32) (t_leader : Nat → Int32) (K : Int32 → (Nat → Int32) → Prop) (x1 : Int32) (x2 : Int32) (t_numbers : Nat → Int32) (R4 : Int32 → Int32 → (Nat → Int32) → Prop) : Prop :=
  ((t_n ≤ x2 → (K x1 t_numbers)) ∧ (¬ t_n ≤ x2 → (vp_in x2 8 ∧ ((¬ (t_leader (Int32.toNatClampNeg x2)) = x2 → (vp_in x2 8 ∧ (vp_in (t_leader (Int32.toNatClampNeg x2)) 8 ∧ (vp_in x2 8 ∧ (R4 x1 (x2 + 1) (upd t_numbers (Int32.toNatClampNeg x2) (t_numbers (Int32.toNatClampNeg (t_leader (Int32.toNatClampNeg x2)))))))))) ∧ ((t_leader (Int32.toNatClampNeg x2)) = x2 → (vp_in x2 8 ∧ (R4 (x1 + 1) (x2 + 1) (upd t_numbers (Int32.toNatClampNeg x2) x1))))))))

def pX1_number (t_n : Int32) (t_leader : Nat → Int32) (t_numbers : Nat → Int32) (K : Int32 → (Nat → Int32) → Prop) : Prop :=
  (lpW3 (pX1_number_4 t_n t_leader K) (0 : Int32) (0 : Int32) t_numbers)

def pX1_numberOf (t_numbers : Nat → Int32) (x1 : Int32) (K : Int32 → Prop) : Prop :=
  (vp_in x1 8 ∧ (K (t_numbers (Int32.toNatClampNeg x1))))

def pX5_image (x0 : Int32) (x1 : Int32) (K : Int32 → Prop) : Prop :=
  (K ((x0 >>> (((3 : Int32) * x1) &&& 31)) &&& (7 : Int32)))

def pX5_with (x0 : Int32) (x1 : Int32) (x2 : Int32) (K : Int32 → Prop) : Prop :=
  (K (x0 ||| (x2 <<< (((3 : Int32) * x1) &&& 31))))

def pX5_unusedNumber_4 (K : Int32 → Prop) (x0 : Int32) (x2 : Int32) (x3 : Int32) (R4 : Int32 → Int32 → Prop) : Prop :=
  (((8 : Int32) ≤ x3 → (K (0 : Int32))) ∧ (¬ (8 : Int32) ≤ x3 → ((¬ ((x0 >>> (x3 &&& 31)) &&& (1 : Int32)) = 0 → (R4 x2 (x3 + 1))) ∧ (((x0 >>> (x3 &&& 31)) &&& (1 : Int32)) = 0 → ((¬ x2 = 0 → (R4 (x2 + (-1)) (x3 + 1))) ∧ (x2 = 0 → (K x3)))))))

def pX5_unusedNumber (x0 : Int32) (x1 : Int32) (K : Int32 → Prop) : Prop :=
  (lpW2 (pX5_unusedNumber_4 K x0) x1 (0 : Int32))

def pX5_numbered_10 (K : Int32 → Prop) (x0 : Int32) (x2 : Int32) (x3 : Int32) (x4 : Int32) (x5 : Int32) (R10 : Int32 → Int32 → Int32 → Int32 → Prop) : Prop :=
  ((x0 ≤ x5 → (K x2)) ∧ (¬ x0 ≤ x5 → (vp_in ((x0 - (1 : Int32)) - x5) 9 ∧ (¬ (fct (Int32.toNatClampNeg ((x0 - (1 : Int32)) - x5))) = 0 ∧ (pX5_unusedNumber x3 (x4 / (fct (Int32.toNatClampNeg ((x0 - (1 : Int32)) - x5)))) (fun r34 => (¬ (fct (Int32.toNatClampNeg ((x0 - (1 : Int32)) - x5))) = 0 ∧ (pX5_with x2 x5 r34 (fun r58 => (R10 r58 (x3 ||| ((1 : Int32) <<< (r34 &&& 31))) (x4 - x4 / (fct (Int32.toNatClampNeg ((x0 - (1 : Int32)) - x5))) * (fct (Int32.toNatClampNeg ((x0 - (1 : Int32)) - x5)))) (x5 + 1)))))))))))

def pX5_numbered (x0 : Int32) (x1 : Int32) (K : Int32 → Prop) : Prop :=
  (lpW4 (pX5_numbered_10 K x0) (0 : Int32) (0 : Int32) x1 (0 : Int32))

def pX5_identity (x0 : Int32) (K : Int32 → Prop) : Prop :=
  (pX5_numbered x0 (0 : Int32) (fun r2 => (K r2)))

def pX5_after_5 (K : Int32 → Prop) (x0 : Int32) (x1 : Int32) (x2 : Int32) (x3 : Int32) (x4 : Int32) (R5 : Int32 → Int32 → Prop) : Prop :=
  ((x2 ≤ x4 → (K x3)) ∧ (¬ x2 ≤ x4 → (pX5_image x1 x4 (fun r18 => (pX5_image x0 r18 (fun r21 => (pX5_with x3 x4 r21 (fun r24 => (R5 r24 (x4 + 1))))))))))

def pX5_after (x0 : Int32) (x1 : Int32) (x2 : Int32) (K : Int32 → Prop) : Prop :=
  (lpW2 (pX5_after_5 K x0 x1 x2) (0 : Int32) (0 : Int32))

def pX5_contrary_4 (K : Int32 → Prop) (x0 : Int32) (x1 : Int32) (x2 : Int32) (x3 : Int32) (R4 : Int32 → Int32 → Prop) : Prop :=
  ((x1 ≤ x3 → (K x2)) ∧ (¬ x1 ≤ x3 → (pX5_image x0 x3 (fun r12 => (pX5_with x2 r12 x3 (fun r16 => (R4 r16 (x3 + 1))))))))

def pX5_contrary (x0 : Int32) (x1 : Int32) (K : Int32 → Prop) : Prop :=
  (lpW2 (pX5_contrary_4 K x0 x1) (0 : Int32) (0 : Int32))

def pX7_has_16 (t_n : Int32) (K : Int32 → Prop) : Prop :=
  (zb (0 : Int32) ∧ K (0 : Int32))

def pX7_has (t_n : Int32) (x1 : Int32) (K : Int32 → Prop) : Prop :=
  ((x1 < 0 → (pX7_has_16 t_n K)) ∧ (¬ x1 < 0 → ((t_n ≤ x1 → (pX7_has_16 t_n K)) ∧ (¬ t_n ≤ x1 → (zb (1 : Int32) ∧ K (1 : Int32))))))

def pX7_turned (t_cells : Nat → Int32) (x1 : Int32) (x2 : Int32) (K : Int32 → Prop) : Prop :=
  (vp_in ((x1 * (8 : Int32)) + x2) 64 ∧ (K (t_cells (Int32.toNatClampNeg ((x1 * (8 : Int32)) + x2)))))

def pX7_put (t_cells : Nat → Int32) (x1 : Int32) (x2 : Int32) (x3 : Int32) (K : (Nat → Int32) → Prop) : Prop :=
  (vp_in ((x1 * (8 : Int32)) + x2) 64 ∧ (K (upd t_cells (Int32.toNatClampNeg ((x1 * (8 : Int32)) + x2)) x3)))

def pX7_putRow_2 (t_n : Int32) (K : (Nat → Int32) → Prop) (x1 : Int32) (x2 : Int32) (x3 : Int32) (t_cells : Nat → Int32) (R2 : Int32 → (Nat → Int32) → Prop) : Prop :=
  ((t_n ≤ x3 → (K t_cells)) ∧ (¬ t_n ≤ x3 → (pX5_image x2 x3 (fun r15 => (pX7_put t_cells x1 x3 r15 (fun t_cells_18 => (R2 (x3 + 1) t_cells_18)))))))

def pX7_putRow (t_n : Int32) (t_cells : Nat → Int32) (x1 : Int32) (x2 : Int32) (K : (Nat → Int32) → Prop) : Prop :=
  (lpW2 (pX7_putRow_2 t_n K x1 x2) (0 : Int32) t_cells)

def pX7_copy (t_n : Int32) (t_cells : Nat → Int32) (p1_n : Int32) (p1_cells : Nat → Int32) (K : Int32 → (Nat → Int32) → Prop) : Prop :=
  (K p1_n (va_cpy p1_cells t_cells (Int32.toNatClampNeg (0 : Int32)) (Int32.toNatClampNeg (0 : Int32)) (Int32.toNatClampNeg (64 : Int32))))

def pX7_makeContrary_20 (p1_n : Int32) (p1_cells : Nat → Int32) (R10 : Int32 → (Nat → Int32) → Prop) (K : Int32 → (Nat → Int32) → Prop) (t_n : Int32) (x2 : Int32) (x3 : Int32) (t_cells : Nat → Int32) (R20 : Int32 → (Nat → Int32) → Prop) : Prop :=
  ((t_n ≤ x3 → (R10 (x2 + 1) t_cells)) ∧ (¬ t_n ≤ x3 → (pX7_turned p1_cells x2 x3 (fun r33 => (pX7_put t_cells x2 r33 x3 (fun t_cells_37 => (R20 (x3 + 1) t_cells_37)))))))

def pX7_makeContrary_10 (p1_n : Int32) (p1_cells : Nat → Int32) (K : Int32 → (Nat → Int32) → Prop) (t_n : Int32) (x2 : Int32) (t_cells : Nat → Int32) (R10 : Int32 → (Nat → Int32) → Prop) : Prop :=
  ((t_n ≤ x2 → (K t_n t_cells)) ∧ (¬ t_n ≤ x2 → (lpW2 (pX7_makeContrary_20 p1_n p1_cells R10 K t_n x2) (0 : Int32) t_cells)))

def pX7_makeContrary (t_n : Int32) (t_cells : Nat → Int32) (p1_n : Int32) (p1_cells : Nat → Int32) (K : Int32 → (Nat → Int32) → Prop) : Prop :=
  (lpW2 (pX7_makeContrary_10 p1_n p1_cells K p1_n) (0 : Int32) t_cells)

def pX7_firstTornRow_24 (t_n : Int32) (t_cells : Nat → Int32) (R11 : Int32 → Prop) (K : Int32 → Prop) (x1 : Int32) (x2 : Int32) (x3 : Int32) (x4 : Int32) (R24 : Int32 → Int32 → Prop) : Prop :=
  ((t_n ≤ x4 → ((x3 = x1 → (R11 (x2 + 1))) ∧ (¬ x3 = x1 → (K x2)))) ∧ (¬ t_n ≤ x4 → (pX7_turned t_cells x2 x4 (fun r39 => (R24 (x3 ||| ((1 : Int32) <<< (r39 &&& 31))) (x4 + 1))))))

def pX7_firstTornRow_11 (t_n : Int32) (t_cells : Nat → Int32) (K : Int32 → Prop) (x1 : Int32) (x2 : Int32) (R11 : Int32 → Prop) : Prop :=
  ((t_n ≤ x2 → (K (-1 : Int32))) ∧ (¬ t_n ≤ x2 → (lpW2 (pX7_firstTornRow_24 t_n t_cells R11 K x1 x2) (0 : Int32) (0 : Int32))))

def pX7_firstTornRow (t_n : Int32) (t_cells : Nat → Int32) (K : Int32 → Prop) : Prop :=
  (lpW1 (pX7_firstTornRow_11 t_n t_cells K (((1 : Int32) <<< (t_n &&& 31)) - (1 : Int32))) (0 : Int32))

def pX7_firstBrokenTriple_22 (t_n : Int32) (t_cells : Nat → Int32) (R2 : Int32 → Prop) (R12 : Int32 → Prop) (K : Int32 → Prop) (x1 : Int32) (x2 : Int32) (x3 : Int32) (R22 : Int32 → Prop) : Prop :=
  ((t_n ≤ x3 → (R12 (x2 + 1))) ∧ (¬ t_n ≤ x3 → (pX7_turned t_cells x2 x3 (fun r35 => (pX7_turned t_cells x1 r35 (fun r38 => (pX7_turned t_cells x1 x2 (fun r45 => (pX7_turned t_cells x1 x3 (fun r51 => (pX7_turned t_cells r45 r51 (fun r54 => ((r38 = r54 → (R22 (x3 + 1))) ∧ (¬ r38 = r54 → (K ((((x1 * (8 : Int32)) + x2) * (8 : Int32)) + x3))))))))))))))))

def pX7_firstBrokenTriple_12 (t_n : Int32) (t_cells : Nat → Int32) (R2 : Int32 → Prop) (K : Int32 → Prop) (x1 : Int32) (x2 : Int32) (R12 : Int32 → Prop) : Prop :=
  ((t_n ≤ x2 → (R2 (x1 + 1))) ∧ (¬ t_n ≤ x2 → (lpW1 (pX7_firstBrokenTriple_22 t_n t_cells R2 R12 K x1 x2) (0 : Int32))))

def pX7_firstBrokenTriple_2 (t_n : Int32) (t_cells : Nat → Int32) (K : Int32 → Prop) (x1 : Int32) (R2 : Int32 → Prop) : Prop :=
  ((t_n ≤ x1 → (K (-1 : Int32))) ∧ (¬ t_n ≤ x1 → (lpW1 (pX7_firstBrokenTriple_12 t_n t_cells R2 K x1) (0 : Int32))))

def pX7_firstBrokenTriple (t_n : Int32) (t_cells : Nat → Int32) (K : Int32 → Prop) : Prop :=
  (lpW1 (pX7_firstBrokenTriple_2 t_n t_cells K) (0 : Int32))

def pX7_isRack_20 (t_n : Int32) (t_cells : Nat → Int32) (K : Int32 → Prop) : Prop :=
  (zb (0 : Int32) ∧ K (0 : Int32))

def pX7_isRack (t_n : Int32) (t_cells : Nat → Int32) (K : Int32 → Prop) : Prop :=
  (pX7_firstTornRow t_n t_cells (fun r1 => ((¬ r1 = (-1 : Int32) → (pX7_isRack_20 t_n t_cells K)) ∧ (r1 = (-1 : Int32) → (pX7_firstBrokenTriple t_n t_cells (fun r9 => ((¬ r9 = (-1 : Int32) → (pX7_isRack_20 t_n t_cells K)) ∧ (r9 = (-1 : Int32) → (zb (1 : Int32) ∧ K (1 : Int32))))))))))

def pX7_isIdempotent_2 (t_n : Int32) (t_cells : Nat → Int32) (K : Int32 → Prop) (x1 : Int32) (R2 : Int32 → Prop) : Prop :=
  ((t_n ≤ x1 → (zb (1 : Int32) ∧ K (1 : Int32))) ∧ (¬ t_n ≤ x1 → (pX7_turned t_cells x1 x1 (fun r13 => ((r13 = x1 → (R2 (x1 + 1))) ∧ (¬ r13 = x1 → (zb (0 : Int32) ∧ K (0 : Int32))))))))

def pX7_isIdempotent (t_n : Int32) (t_cells : Nat → Int32) (K : Int32 → Prop) : Prop :=
  (lpW1 (pX7_isIdempotent_2 t_n t_cells K) (0 : Int32))

def pX7_isInvolutory_12 (t_n : Int32) (t_cells : Nat → Int32) (R2 : Int32 → Prop) (K : Int32 → Prop) (x1 : Int32) (x2 : Int32) (R12 : Int32 → Prop) : Prop :=
  ((t_n ≤ x2 → (R2 (x1 + 1))) ∧ (¬ t_n ≤ x2 → (pX7_turned t_cells x1 x2 (fun r25 => (pX7_turned t_cells x1 r25 (fun r28 => ((r28 = x2 → (R12 (x2 + 1))) ∧ (¬ r28 = x2 → (zb (0 : Int32) ∧ K (0 : Int32))))))))))

def pX7_isInvolutory_2 (t_n : Int32) (t_cells : Nat → Int32) (K : Int32 → Prop) (x1 : Int32) (R2 : Int32 → Prop) : Prop :=
  ((t_n ≤ x1 → (zb (1 : Int32) ∧ K (1 : Int32))) ∧ (¬ t_n ≤ x1 → (lpW1 (pX7_isInvolutory_12 t_n t_cells R2 K x1) (0 : Int32))))

def pX7_isInvolutory (t_n : Int32) (t_cells : Nat → Int32) (K : Int32 → Prop) : Prop :=
  (lpW1 (pX7_isInvolutory_2 t_n t_cells K) (0 : Int32))

def pX7_rowsAreAlike_2 (t_n : Int32) (t_cells : Nat → Int32) (K : Int32 → Prop) (x1 : Int32) (x2 : Int32) (x3 : Int32) (R2 : Int32 → Prop) : Prop :=
  ((t_n ≤ x3 → (zb (1 : Int32) ∧ K (1 : Int32))) ∧ (¬ t_n ≤ x3 → (pX7_turned t_cells x1 x3 (fun r13 => (pX7_turned t_cells x2 x3 (fun r19 => ((r13 = r19 → (R2 (x3 + 1))) ∧ (¬ r13 = r19 → (zb (0 : Int32) ∧ K (0 : Int32))))))))))

def pX7_rowsAreAlike (t_n : Int32) (t_cells : Nat → Int32) (x1 : Int32) (x2 : Int32) (K : Int32 → Prop) : Prop :=
  (lpW1 (pX7_rowsAreAlike_2 t_n t_cells K x1 x2) (0 : Int32))

def pX7_rowsDiffer_14 (t_n : Int32) (t_cells : Nat → Int32) (R2 : Int32 → Prop) (K : Int32 → Prop) (x1 : Int32) (x2 : Int32) (R14 : Int32 → Prop) : Prop :=
  ((t_n ≤ x2 → (R2 (x1 + 1))) ∧ (¬ t_n ≤ x2 → (pX7_rowsAreAlike t_n t_cells x1 x2 (fun r25 => ((r25 = 0 → (R14 (x2 + 1))) ∧ (¬ r25 = 0 → (zb (0 : Int32) ∧ K (0 : Int32))))))))

def pX7_rowsDiffer_2 (t_n : Int32) (t_cells : Nat → Int32) (K : Int32 → Prop) (x1 : Int32) (R2 : Int32 → Prop) : Prop :=
  ((t_n ≤ x1 → (zb (1 : Int32) ∧ K (1 : Int32))) ∧ (¬ t_n ≤ x1 → (lpW1 (pX7_rowsDiffer_14 t_n t_cells R2 K x1) (x1 + (1 : Int32)))))

def pX7_rowsDiffer (t_n : Int32) (t_cells : Nat → Int32) (K : Int32 → Prop) : Prop :=
  (lpW1 (pX7_rowsDiffer_2 t_n t_cells K) (0 : Int32))

def pX7_columnsHaveAll_24 (t_n : Int32) (t_cells : Nat → Int32) (R11 : Int32 → Prop) (K : Int32 → Prop) (x1 : Int32) (x2 : Int32) (x3 : Int32) (x4 : Int32) (R24 : Int32 → Int32 → Prop) : Prop :=
  ((t_n ≤ x4 → ((x3 = x1 → (R11 (x2 + 1))) ∧ (¬ x3 = x1 → (zb (0 : Int32) ∧ K (0 : Int32))))) ∧ (¬ t_n ≤ x4 → (pX7_turned t_cells x4 x2 (fun r39 => (R24 (x3 ||| ((1 : Int32) <<< (r39 &&& 31))) (x4 + 1))))))

def pX7_columnsHaveAll_11 (t_n : Int32) (t_cells : Nat → Int32) (K : Int32 → Prop) (x1 : Int32) (x2 : Int32) (R11 : Int32 → Prop) : Prop :=
  ((t_n ≤ x2 → (zb (1 : Int32) ∧ K (1 : Int32))) ∧ (¬ t_n ≤ x2 → (lpW2 (pX7_columnsHaveAll_24 t_n t_cells R11 K x1 x2) (0 : Int32) (0 : Int32))))

def pX7_columnsHaveAll (t_n : Int32) (t_cells : Nat → Int32) (K : Int32 → Prop) : Prop :=
  (lpW1 (pX7_columnsHaveAll_11 t_n t_cells K (((1 : Int32) <<< (t_n &&& 31)) - (1 : Int32))) (0 : Int32))

def pX9_flatten (t_values : Nat → Int32) (K : (Nat → Int32) → Prop) : Prop :=
  (pJ7_fill_53178 64 t_values (0 : Int32) (fun t_values_5 => (K t_values_5)))

def pX9_value (t_values : Nat → Int32) (x1 : Int32) (x2 : Int32) (K : Int32 → Prop) : Prop :=
  (vp_in ((x1 * (8 : Int32)) + x2) 64 ∧ (K (t_values (Int32.toNatClampNeg ((x1 * (8 : Int32)) + x2)))))

def pX9_put (t_values : Nat → Int32) (x1 : Int32) (x2 : Int32) (x3 : Int32) (K : (Nat → Int32) → Prop) : Prop :=
  (vp_in ((x1 * (8 : Int32)) + x2) 64 ∧ (K (upd t_values (Int32.toNatClampNeg ((x1 * (8 : Int32)) + x2)) x3)))

def pX9_firstOpenTriple_23 (t_modulus : Int32) (t_values : Nat → Int32) (p1_n : Int32) (p1_cells : Nat → Int32) (R2 : Int32 → Prop) (R12 : Int32 → Prop) (K : Int32 → Prop) (x2 : Int32) (x3 : Int32) (x4 : Int32) (R23 : Int32 → Prop) : Prop :=
  ((p1_n ≤ x4 → (R12 (x3 + 1))) ∧ (¬ p1_n ≤ x4 → (pX9_value t_values x3 x4 (fun r36 => (pX7_turned p1_cells x3 x4 (fun r45 => (pX9_value t_values x2 r45 (fun r48 => (pX9_value t_values x2 x4 (fun r58 => (pX7_turned p1_cells x2 x3 (fun r65 => (pX7_turned p1_cells x2 x4 (fun r72 => (pX9_value t_values r65 r72 (fun r75 => (¬ t_modulus = 0 ∧ (((((r36 + r48) - (r58 + r75)) - ((r36 + r48) - (r58 + r75)) / t_modulus * t_modulus) = 0 → (R23 (x4 + 1))) ∧ (¬ (((r36 + r48) - (r58 + r75)) - ((r36 + r48) - (r58 + r75)) / t_modulus * t_modulus) = 0 → (K ((((x2 * (8 : Int32)) + x3) * (8 : Int32)) + x4)))))))))))))))))))))

def pX9_firstOpenTriple_12 (t_modulus : Int32) (t_values : Nat → Int32) (p1_n : Int32) (p1_cells : Nat → Int32) (R2 : Int32 → Prop) (K : Int32 → Prop) (x2 : Int32) (x3 : Int32) (R12 : Int32 → Prop) : Prop :=
  ((p1_n ≤ x3 → (R2 (x2 + 1))) ∧ (¬ p1_n ≤ x3 → (lpW1 (pX9_firstOpenTriple_23 t_modulus t_values p1_n p1_cells R2 R12 K x2 x3) (0 : Int32))))

def pX9_firstOpenTriple_2 (t_modulus : Int32) (t_values : Nat → Int32) (p1_n : Int32) (p1_cells : Nat → Int32) (K : Int32 → Prop) (x2 : Int32) (R2 : Int32 → Prop) : Prop :=
  ((p1_n ≤ x2 → (K (-1 : Int32))) ∧ (¬ p1_n ≤ x2 → (lpW1 (pX9_firstOpenTriple_12 t_modulus t_values p1_n p1_cells R2 K x2) (0 : Int32))))

def pX9_firstOpenTriple (t_modulus : Int32) (t_values : Nat → Int32) (p1_n : Int32) (p1_cells : Nat → Int32) (K : Int32 → Prop) : Prop :=
  (lpW1 (pX9_firstOpenTriple_2 t_modulus t_values p1_n p1_cells K) (0 : Int32))

def pX0_add (t_length : Int32) (t_word : Nat → Int32) (x1 : Int32) (K : Int32 → (Nat → Int32) → Prop) : Prop :=
  (((24 : Int32) ≤ t_length → (K t_length t_word)) ∧ (¬ (24 : Int32) ≤ t_length → (vp_in t_length 24 ∧ (K (t_length + (1 : Int32)) (upd t_word (Int32.toNatClampNeg t_length) x1)))))

def pX0_tallied (t_tallies : Nat → Int32) (x1 : Int32) (K : Int32 → Prop) : Prop :=
  (vp_in x1 7 ∧ (K (t_tallies (Int32.toNatClampNeg x1))))

def pX0_spread_5 (t_width : Int32) (K : (Nat → Int32) → (Nat → Int32) → Prop) (x2 : Int32) (x3 : Int32) (x4 : Int32) (t_ahead : Nat → Int32) (t_now : Nat → Int32) (R5 : Int32 → Int32 → (Nat → Int32) → (Nat → Int32) → Prop) : Prop :=
  ((t_width ≤ x4 → (K t_ahead t_now)) ∧ (¬ t_width ≤ x4 → (¬ x2 = 0 ∧ (vp_in x4 4 ∧ (vp_in x4 4 ∧ (vp_in x4 4 ∧ (¬ x2 = 0 ∧ (R5 (x3 / x2) (x4 + 1) (upd t_ahead (Int32.toNatClampNeg x4) (x3 - x3 / x2 * x2)) (upd t_now (Int32.toNatClampNeg x4) ((upd t_ahead (Int32.toNatClampNeg x4) (x3 - x3 / x2 * x2)) (Int32.toNatClampNeg x4)))))))))))

def pX0_spread (t_width : Int32) (t_ahead : Nat → Int32) (t_now : Nat → Int32) (x1 : Int32) (x2 : Int32) (K : (Nat → Int32) → (Nat → Int32) → Prop) : Prop :=
  (lpW4 (pX0_spread_5 t_width K x2) x1 (0 : Int32) t_ahead t_now)

def pX0_cross (t_now : Nat → Int32) (p2_cells : Nat → Int32) (p3_values : Nat → Int32) (x1 : Int32) (K : Int32 → (Nat → Int32) → Prop) : Prop :=
  (vp_in (x1 - (1 : Int32)) 4 ∧ (vp_in x1 4 ∧ (pX7_turned p2_cells (t_now (Int32.toNatClampNeg (x1 - (1 : Int32)))) (t_now (Int32.toNatClampNeg x1)) (fun r30 => (vp_in (x1 - (1 : Int32)) 4 ∧ (vp_in x1 4 ∧ (pX9_value p3_values (t_now (Int32.toNatClampNeg (x1 - (1 : Int32)))) (t_now (Int32.toNatClampNeg x1)) (fun r47 => (K r47 (upd (upd t_now (Int32.toNatClampNeg (x1 - (1 : Int32))) r30) (Int32.toNatClampNeg x1) (t_now (Int32.toNatClampNeg (x1 - (1 : Int32))))))))))))))

def pX0_uncross (t_now : Nat → Int32) (p2_cells : Nat → Int32) (p3_values : Nat → Int32) (x1 : Int32) (K : Int32 → (Nat → Int32) → Prop) : Prop :=
  (vp_in (x1 - (1 : Int32)) 4 ∧ (vp_in x1 4 ∧ (pX7_turned p2_cells (t_now (Int32.toNatClampNeg x1)) (t_now (Int32.toNatClampNeg (x1 - (1 : Int32)))) (fun r23 => (vp_in (x1 - (1 : Int32)) 4 ∧ (vp_in x1 4 ∧ (pX9_value p3_values (t_now (Int32.toNatClampNeg x1)) r23 (fun r51 => (K (-r51) (upd (upd t_now (Int32.toNatClampNeg (x1 - (1 : Int32))) (t_now (Int32.toNatClampNeg x1))) (Int32.toNatClampNeg x1) r23))))))))))

def pX0_isAsAhead_2 (t_width : Int32) (t_ahead : Nat → Int32) (t_now : Nat → Int32) (K : Int32 → Prop) (x1 : Int32) (R2 : Int32 → Prop) : Prop :=
  ((t_width ≤ x1 → (zb (1 : Int32) ∧ K (1 : Int32))) ∧ (¬ t_width ≤ x1 → (vp_in x1 4 ∧ (vp_in x1 4 ∧ (((t_now (Int32.toNatClampNeg x1)) = (t_ahead (Int32.toNatClampNeg x1)) → (R2 (x1 + 1))) ∧ (¬ (t_now (Int32.toNatClampNeg x1)) = (t_ahead (Int32.toNatClampNeg x1)) → (zb (0 : Int32) ∧ K (0 : Int32))))))))

def pX0_isAsAhead (t_width : Int32) (t_ahead : Nat → Int32) (t_now : Nat → Int32) (K : Int32 → Prop) : Prop :=
  (lpW1 (pX0_isAsAhead_2 t_width t_ahead t_now K) (0 : Int32))

def pX0_tally_64 (t_width : Int32) (t_length : Int32) (t_word : Nat → Int32) (p1_n : Int32) (p1_cells : Nat → Int32) (p2_cells : Nat → Int32) (p3_modulus : Int32) (p3_values : Nat → Int32) (R41 : Int32 → (Nat → Int32) → (Nat → Int32) → (Nat → Int32) → Prop) (K : (Nat → Int32) → (Nat → Int32) → (Nat → Int32) → Prop) (x4 : Int32) (x5 : Int32) (t_ahead : Nat → Int32) (t_tallies : Nat → Int32) (x6 : Int32) (x7 : Int32) (t_now : Nat → Int32) (R64 : Int32 → Int32 → (Nat → Int32) → Prop) : Prop :=
  ((t_length ≤ x7 → (pX0_isAsAhead t_width t_ahead t_now (fun r125 => ((r125 = 0 → (R41 (x5 + 1) t_ahead t_now t_tallies)) ∧ (¬ r125 = 0 → (pJ9_floorMod_7cf53 x6 p3_modulus (fun r141 => (vp_in r141 7 ∧ (vp_in r141 7 ∧ (R41 (x5 + 1) t_ahead t_now (upd t_tallies (Int32.toNatClampNeg r141) ((t_tallies (Int32.toNatClampNeg r141)) + (1 : Int32))))))))))))) ∧ (¬ t_length ≤ x7 → (vp_in x7 24 ∧ (((t_word (Int32.toNatClampNeg x7)) ≤ 0 → (vp_in x7 24 ∧ (pX0_uncross t_now p2_cells p3_values (-(t_word (Int32.toNatClampNeg x7))) (fun r112 t_now_112 => (R64 (x6 + r112) (x7 + 1) t_now_112))))) ∧ (¬ (t_word (Int32.toNatClampNeg x7)) ≤ 0 → (vp_in x7 24 ∧ (pX0_cross t_now p1_cells p3_values (t_word (Int32.toNatClampNeg x7)) (fun r95 t_now_95 => (R64 (x6 + r95) (x7 + 1) t_now_95)))))))))

def pX0_tally_41 (t_width : Int32) (t_length : Int32) (t_word : Nat → Int32) (p1_n : Int32) (p1_cells : Nat → Int32) (p2_cells : Nat → Int32) (p3_modulus : Int32) (p3_values : Nat → Int32) (R14 : Int32 → Int32 → Prop) (K : (Nat → Int32) → (Nat → Int32) → (Nat → Int32) → Prop) (x4 : Int32) (x5 : Int32) (t_ahead : Nat → Int32) (t_now : Nat → Int32) (t_tallies : Nat → Int32) (R41 : Int32 → (Nat → Int32) → (Nat → Int32) → (Nat → Int32) → Prop) : Prop :=
  ((x4 ≤ x5 → (K t_ahead t_now t_tallies)) ∧ (¬ x4 ≤ x5 → (pX0_spread t_width t_ahead t_now x5 p1_n (fun t_ahead_55 t_now_55 => (lpW3 (pX0_tally_64 t_width t_length t_word p1_n p1_cells p2_cells p3_modulus p3_values R41 K x4 x5 t_ahead_55 t_tallies) (0 : Int32) (0 : Int32) t_now_55)))))

def pX0_tally_14 (t_width : Int32) (t_length : Int32) (t_word : Nat → Int32) (p1_n : Int32) (p1_cells : Nat → Int32) (p2_cells : Nat → Int32) (p3_modulus : Int32) (p3_values : Nat → Int32) (K : (Nat → Int32) → (Nat → Int32) → (Nat → Int32) → Prop) (t_ahead : Nat → Int32) (t_now : Nat → Int32) (t_tallies : Nat → Int32) (x4 : Int32) (x5 : Int32) (R14 : Int32 → Int32 → Prop) : Prop :=
  ((t_width ≤ x5 → (lpW4 (pX0_tally_41 t_width t_length t_word p1_n p1_cells p2_cells p3_modulus p3_values R14 K x4) (0 : Int32) t_ahead t_now t_tallies)) ∧ (¬ t_width ≤ x5 → (R14 (x4 * p1_n) (x5 + 1))))

def pX0_tally (t_width : Int32) (t_length : Int32) (t_ahead : Nat → Int32) (t_now : Nat → Int32) (t_tallies : Nat → Int32) (t_word : Nat → Int32) (p1_n : Int32) (p1_cells : Nat → Int32) (p2_cells : Nat → Int32) (p3_modulus : Int32) (p3_values : Nat → Int32) (K : (Nat → Int32) → (Nat → Int32) → (Nat → Int32) → Prop) : Prop :=
  (pJ7_fill_53178 7 t_tallies (0 : Int32) (fun t_tallies_5 => (lpW2 (pX0_tally_14 t_width t_length t_word p1_n p1_cells p2_cells p3_modulus p3_values K t_ahead t_now t_tallies_5) (1 : Int32) (0 : Int32))))

def pX6_addTerm (t_things : Int32) (t_prime : Int32) (t_equation : Nat → Int32) (x1 : Int32) (x2 : Int32) (x3 : Int32) (K : (Nat → Int32) → Prop) : Prop :=
  (vp_in ((x1 * t_things) + x2) 64 ∧ (¬ t_prime = 0 ∧ (vp_in ((x1 * t_things) + x2) 64 ∧ (K (upd t_equation (Int32.toNatClampNeg ((x1 * t_things) + x2)) (((t_equation (Int32.toNatClampNeg ((x1 * t_things) + x2))) + x3) - ((t_equation (Int32.toNatClampNeg ((x1 * t_things) + x2))) + x3) / t_prime * t_prime))))))

def pX6_tellEquation (t_things : Int32) (t_prime : Int32) (t_equation : Nat → Int32) (p1_cells : Nat → Int32) (x2 : Int32) (x3 : Int32) (x4 : Int32) (K : (Nat → Int32) → Prop) : Prop :=
  (pJ7_fill_53178 64 t_equation (0 : Int32) (fun t_equation_5 => (pX6_addTerm t_things t_prime t_equation_5 x3 x4 (1 : Int32) (fun t_equation_13 => (pX7_turned p1_cells x3 x4 (fun r22 => (pX6_addTerm t_things t_prime t_equation_13 x2 r22 (1 : Int32) (fun t_equation_26 => (pX6_addTerm t_things t_prime t_equation_26 x2 x4 (t_prime - (1 : Int32)) (fun t_equation_39 => (pX7_turned p1_cells x2 x3 (fun r46 => (pX7_turned p1_cells x2 x4 (fun r53 => (pX6_addTerm t_things t_prime t_equation_39 r46 r53 (t_prime - (1 : Int32)) (fun t_equation_62 => (K t_equation_62)))))))))))))))))

def pX6_inverse_2 (t_prime : Int32) (K : Int32 → Prop) (x1 : Int32) (x2 : Int32) (R2 : Int32 → Prop) : Prop :=
  ((t_prime ≤ x2 → (K (1 : Int32))) ∧ (¬ t_prime ≤ x2 → (¬ t_prime = 0 ∧ ((¬ ((x1 * x2) - (x1 * x2) / t_prime * t_prime) = (1 : Int32) → (R2 (x2 + 1))) ∧ (((x1 * x2) - (x1 * x2) / t_prime * t_prime) = (1 : Int32) → (K x2))))))

def pX6_inverse (t_prime : Int32) (x1 : Int32) (K : Int32 → Prop) : Prop :=
  (lpW1 (pX6_inverse_2 t_prime K x1) (1 : Int32))

def pX6_keepStep_13 (t_unknowns : Int32) (t_prime : Int32) (t_equation : Nat → Int32) (K : (Nat → Int32) → Prop) (x1 : Int32) (x2 : Int32) (x3 : Int32) (t_steps : Nat → Int32) (R13 : Int32 → (Nat → Int32) → Prop) : Prop :=
  ((t_unknowns ≤ x3 → (K t_steps)) ∧ (¬ t_unknowns ≤ x3 → (vp_in x3 64 ∧ (¬ t_prime = 0 ∧ (vp_in ((x1 * (64 : Int32)) + x3) 4096 ∧ (R13 (x3 + 1) (upd t_steps (Int32.toNatClampNeg ((x1 * (64 : Int32)) + x3)) (((t_equation (Int32.toNatClampNeg x3)) * x2) - ((t_equation (Int32.toNatClampNeg x3)) * x2) / t_prime * t_prime))))))))

def pX6_keepStep (t_unknowns : Int32) (t_prime : Int32) (t_equation : Nat → Int32) (t_steps : Nat → Int32) (x1 : Int32) (K : (Nat → Int32) → Prop) : Prop :=
  (vp_in x1 64 ∧ (pX6_inverse t_prime (t_equation (Int32.toNatClampNeg x1)) (fun r7 => (lpW2 (pX6_keepStep_13 t_unknowns t_prime t_equation K x1 r7) x1 t_steps))))

def pX6_clearLead_14 (t_unknowns : Int32) (t_prime : Int32) (t_steps : Nat → Int32) (K : (Nat → Int32) → Prop) (x1 : Int32) (x2 : Int32) (x3 : Int32) (t_equation : Nat → Int32) (R14 : Int32 → (Nat → Int32) → Prop) : Prop :=
  ((t_unknowns ≤ x3 → (K t_equation)) ∧ (¬ t_unknowns ≤ x3 → (vp_in x3 64 ∧ (vp_in ((x1 * (64 : Int32)) + x3) 4096 ∧ (¬ t_prime = 0 ∧ (vp_in x3 64 ∧ (R14 (x3 + 1) (upd t_equation (Int32.toNatClampNeg x3) (((t_equation (Int32.toNatClampNeg x3)) + (x2 * (t_steps (Int32.toNatClampNeg ((x1 * (64 : Int32)) + x3))))) - ((t_equation (Int32.toNatClampNeg x3)) + (x2 * (t_steps (Int32.toNatClampNeg ((x1 * (64 : Int32)) + x3))))) / t_prime * t_prime)))))))))

def pX6_clearLead (t_unknowns : Int32) (t_prime : Int32) (t_equation : Nat → Int32) (t_steps : Nat → Int32) (x1 : Int32) (K : (Nat → Int32) → Prop) : Prop :=
  (vp_in x1 64 ∧ (lpW2 (pX6_clearLead_14 t_unknowns t_prime t_steps K x1 (t_prime - (t_equation (Int32.toNatClampNeg x1)))) x1 t_equation))

def pX6_bindsOne_2 (t_unknowns : Int32) (t_prime : Int32) (K : Int32 → Int64 → (Nat → Int32) → (Nat → Int32) → Prop) (t_leads : Int64) (t_steps : Nat → Int32) (x1 : Int32) (t_equation : Nat → Int32) (R2 : Int32 → (Nat → Int32) → Prop) : Prop :=
  ((t_unknowns ≤ x1 → (zb (0 : Int32) ∧ K (0 : Int32) t_leads t_equation t_steps)) ∧ (¬ t_unknowns ≤ x1 → (vp_in x1 64 ∧ (((t_equation (Int32.toNatClampNeg x1)) = 0 → (R2 (x1 + 1) t_equation)) ∧ (¬ (t_equation (Int32.toNatClampNeg x1)) = 0 → ((¬ (lg_cmp ((t_leads >>> ((Int32.toInt64 x1) &&& 63)) &&& (1 : Int64)) (0 : Int64)) = 0 → (pX6_clearLead t_unknowns t_prime t_equation t_steps x1 (fun t_equation_53 => (R2 (x1 + 1) t_equation_53)))) ∧ ((lg_cmp ((t_leads >>> ((Int32.toInt64 x1) &&& 63)) &&& (1 : Int64)) (0 : Int64)) = 0 → (pX6_keepStep t_unknowns t_prime t_equation t_steps x1 (fun t_steps_46 => (zb (1 : Int32) ∧ K (1 : Int32) (t_leads ||| ((1 : Int64) <<< ((Int32.toInt64 x1) &&& 63))) t_equation t_steps_46))))))))))

def pX6_bindsOne (t_unknowns : Int32) (t_prime : Int32) (t_leads : Int64) (t_equation : Nat → Int32) (t_steps : Nat → Int32) (K : Int32 → Int64 → (Nat → Int32) → (Nat → Int32) → Prop) : Prop :=
  (lpW2 (pX6_bindsOne_2 t_unknowns t_prime K t_leads t_steps) (0 : Int32) t_equation)

def pX6_closedPower_63 (p1_n : Int32) (p1_cells : Nat → Int32) (R39 : Int32 → Int32 → Int64 → (Nat → Int32) → (Nat → Int32) → Prop) (R51 : Int32 → Int32 → Int64 → (Nat → Int32) → (Nat → Int32) → Prop) (K : Int32 → Int32 → Int32 → Int32 → Int64 → (Nat → Int32) → (Nat → Int32) → Prop) (t_things : Int32) (t_unknowns : Int32) (t_prime : Int32) (x4 : Int32) (x5 : Int32) (x3 : Int32) (x6 : Int32) (t_leads : Int64) (t_equation : Nat → Int32) (t_steps : Nat → Int32) (R63 : Int32 → Int32 → Int64 → (Nat → Int32) → (Nat → Int32) → Prop) : Prop :=
  ((p1_n ≤ x6 → (R51 x3 (x5 + 1) t_leads t_equation t_steps)) ∧ (¬ p1_n ≤ x6 → (pX6_tellEquation t_things t_prime t_equation p1_cells x4 x5 x6 (fun t_equation_80 => (pX6_bindsOne t_unknowns t_prime t_leads t_equation_80 t_steps (fun r84 t_leads_84 t_equation_84 t_steps_84 => ((r84 = 0 → (R63 x3 (x6 + 1) t_leads_84 t_equation_84 t_steps_84)) ∧ (¬ r84 = 0 → (R63 (x3 + (-1)) (x6 + 1) t_leads_84 t_equation_84 t_steps_84)))))))))

def pX6_closedPower_51 (p1_n : Int32) (p1_cells : Nat → Int32) (R39 : Int32 → Int32 → Int64 → (Nat → Int32) → (Nat → Int32) → Prop) (K : Int32 → Int32 → Int32 → Int32 → Int64 → (Nat → Int32) → (Nat → Int32) → Prop) (t_things : Int32) (t_unknowns : Int32) (t_prime : Int32) (x4 : Int32) (x3 : Int32) (x5 : Int32) (t_leads : Int64) (t_equation : Nat → Int32) (t_steps : Nat → Int32) (R51 : Int32 → Int32 → Int64 → (Nat → Int32) → (Nat → Int32) → Prop) : Prop :=
  ((p1_n ≤ x5 → (R39 x3 (x4 + 1) t_leads t_equation t_steps)) ∧ (¬ p1_n ≤ x5 → (lpW5 (pX6_closedPower_63 p1_n p1_cells R39 R51 K t_things t_unknowns t_prime x4 x5) x3 (0 : Int32) t_leads t_equation t_steps)))

def pX6_closedPower_39 (p1_n : Int32) (p1_cells : Nat → Int32) (K : Int32 → Int32 → Int32 → Int32 → Int64 → (Nat → Int32) → (Nat → Int32) → Prop) (t_things : Int32) (t_unknowns : Int32) (t_prime : Int32) (x3 : Int32) (x4 : Int32) (t_leads : Int64) (t_equation : Nat → Int32) (t_steps : Nat → Int32) (R39 : Int32 → Int32 → Int64 → (Nat → Int32) → (Nat → Int32) → Prop) : Prop :=
  ((p1_n ≤ x4 → (K x3 t_things t_unknowns t_prime t_leads t_equation t_steps)) ∧ (¬ p1_n ≤ x4 → (lpW5 (pX6_closedPower_51 p1_n p1_cells R39 K t_things t_unknowns t_prime x4) x3 (0 : Int32) t_leads t_equation t_steps)))

def pX6_closedPower (t_things : Int32) (t_unknowns : Int32) (t_prime : Int32) (t_leads : Int64) (t_equation : Nat → Int32) (t_steps : Nat → Int32) (p1_n : Int32) (p1_cells : Nat → Int32) (x2 : Int32) (K : Int32 → Int32 → Int32 → Int32 → Int64 → (Nat → Int32) → (Nat → Int32) → Prop) : Prop :=
  (lpW5 (pX6_closedPower_39 p1_n p1_cells K p1_n (p1_n * p1_n) x2) (p1_n * p1_n) (0 : Int32) (0 : Int64) t_equation t_steps)

def pX8_sift_5 (K : (Nat → Int32) → Prop) (x2 : Int32) (t_sieve : Nat → Int32) (x3 : Int32) (x4 : Int32) (R5 : Int32 → Int32 → Prop) : Prop :=
  ((x2 ≤ x4 → (K t_sieve)) ∧ (¬ x2 ≤ x4 → (pX5_image x3 x4 (fun r14 => ((r14 = x4 → (R5 x3 (x4 + 1))) ∧ (¬ r14 = x4 → (vp_in ((x4 * (8 : Int32)) + r14) 64 ∧ ((¬ (t_sieve (Int32.toNatClampNeg ((x4 * (8 : Int32)) + r14))) = (-1 : Int32) → (vp_in ((x4 * (8 : Int32)) + r14) 64 ∧ (pX5_contrary (t_sieve (Int32.toNatClampNeg ((x4 * (8 : Int32)) + r14))) x2 (fun r64 => (pX5_after r64 x3 x2 (fun r69 => (R5 r69 (x4 + 1)))))))) ∧ ((t_sieve (Int32.toNatClampNeg ((x4 * (8 : Int32)) + r14))) = (-1 : Int32) → (vp_in ((x4 * (8 : Int32)) + r14) 64 ∧ (K (upd t_sieve (Int32.toNatClampNeg ((x4 * (8 : Int32)) + r14)) x3))))))))))))

def pX8_sift (t_sieve : Nat → Int32) (x1 : Int32) (x2 : Int32) (K : (Nat → Int32) → Prop) : Prop :=
  (lpW2 (pX8_sift_5 K x2 t_sieve) x1 (0 : Int32))

def pX8_reachFrom_92 (t_sieve : Nat → Int32) (R30 : Int32 → Int32 → (Nat → Int32) → (Nat → Int32) → Prop) (R57 : Int32 → Int32 → (Nat → Int32) → (Nat → Int32) → Prop) (K : Int32 → (Nat → Int32) → (Nat → Int32) → Prop) (x1 : Int32) (x2 : Int32) (x4 : Int32) (x5 : Int32) (x3 : Int32) (x6 : Int32) (s0 : Int32) (t_carriers : Nat → Int32) (t_reached : Nat → Int32) : Prop :=
  (vp_in s0 8 ∧ ((¬ (t_carriers (Int32.toNatClampNeg s0)) = (-1 : Int32) → (R57 x3 (x6 + 1) t_carriers t_reached)) ∧ ((t_carriers (Int32.toNatClampNeg s0)) = (-1 : Int32) → ((x2 ≤ x3 → (R57 x3 (x6 + 1) t_carriers t_reached)) ∧ (¬ x2 ≤ x3 → (vp_in x6 64 ∧ (vp_in x5 8 ∧ (pX5_after (t_sieve (Int32.toNatClampNeg x6)) (t_carriers (Int32.toNatClampNeg x5)) x2 (fun r131 => (vp_in s0 8 ∧ (vp_in x3 8 ∧ (R57 (x3 + 1) (x6 + 1) (upd t_carriers (Int32.toNatClampNeg s0) r131) (upd t_reached (Int32.toNatClampNeg x3) s0)))))))))))))

def pX8_reachFrom_57 (t_sieve : Nat → Int32) (R30 : Int32 → Int32 → (Nat → Int32) → (Nat → Int32) → Prop) (K : Int32 → (Nat → Int32) → (Nat → Int32) → Prop) (x1 : Int32) (x2 : Int32) (x4 : Int32) (x5 : Int32) (x3 : Int32) (x6 : Int32) (t_carriers : Nat → Int32) (t_reached : Nat → Int32) (R57 : Int32 → Int32 → (Nat → Int32) → (Nat → Int32) → Prop) : Prop :=
  (((64 : Int32) ≤ x6 → (R30 x3 (x4 + 1) t_carriers t_reached)) ∧ (¬ (64 : Int32) ≤ x6 → (vp_in x6 64 ∧ ((¬ (t_sieve (Int32.toNatClampNeg x6)) = (-1 : Int32) → (vp_in x6 64 ∧ (pX5_image (t_sieve (Int32.toNatClampNeg x6)) x5 (fun r89 => (pX8_reachFrom_92 t_sieve R30 R57 K x1 x2 x4 x5 x3 x6 r89 t_carriers t_reached))))) ∧ ((t_sieve (Int32.toNatClampNeg x6)) = (-1 : Int32) → (pX8_reachFrom_92 t_sieve R30 R57 K x1 x2 x4 x5 x3 x6 x5 t_carriers t_reached))))))

def pX8_reachFrom_30 (t_sieve : Nat → Int32) (K : Int32 → (Nat → Int32) → (Nat → Int32) → Prop) (x1 : Int32) (x2 : Int32) (x3 : Int32) (x4 : Int32) (t_carriers : Nat → Int32) (t_reached : Nat → Int32) (R30 : Int32 → Int32 → (Nat → Int32) → (Nat → Int32) → Prop) : Prop :=
  ((x3 ≤ x4 → (K x3 t_carriers t_reached)) ∧ (¬ x3 ≤ x4 → ((x2 ≤ x4 → (K x3 t_carriers t_reached)) ∧ (¬ x2 ≤ x4 → (vp_in x4 8 ∧ (lpW4 (pX8_reachFrom_57 t_sieve R30 K x1 x2 x4 (t_reached (Int32.toNatClampNeg x4))) x3 (x1 * (8 : Int32)) t_carriers t_reached))))))

def pX8_reachFrom (t_carriers : Nat → Int32) (t_reached : Nat → Int32) (t_sieve : Nat → Int32) (x1 : Int32) (x2 : Int32) (K : Int32 → (Nat → Int32) → (Nat → Int32) → Prop) : Prop :=
  (pJ7_fill_53178 8 t_carriers (-1 : Int32) (fun t_carriers_5 => (pX5_identity x2 (fun r14 => (vp_in x1 8 ∧ (vp_in (0 : Int32) 8 ∧ (lpW4 (pX8_reachFrom_30 t_sieve K x1 x2) (1 : Int32) (0 : Int32) (upd t_carriers_5 (Int32.toNatClampNeg x1) r14) (upd t_reached (Int32.toNatClampNeg (0 : Int32)) x1))))))))

def pX8_siftProducts_24 (t_carriers : Nat → Int32) (t_reached : Nat → Int32) (R3 : Int32 → (Nat → Int32) → Prop) (K : (Nat → Int32) → Prop) (x1 : Int32) (x2 : Int32) (x3 : Int32) (x4 : Int32) (x5 : Int32) (x6 : Int32) (t_sieve : Nat → Int32) (R24 : Int32 → (Nat → Int32) → Prop) : Prop :=
  (((64 : Int32) ≤ x6 → (R3 (x4 + 1) t_sieve)) ∧ (¬ (64 : Int32) ≤ x6 → (vp_in x6 64 ∧ (((t_sieve (Int32.toNatClampNeg x6)) = (-1 : Int32) → (R24 (x6 + 1) t_sieve)) ∧ (¬ (t_sieve (Int32.toNatClampNeg x6)) = (-1 : Int32) → (vp_in x6 64 ∧ (vp_in x5 8 ∧ (pX5_after (t_sieve (Int32.toNatClampNeg x6)) (t_carriers (Int32.toNatClampNeg x5)) x3 (fun r57 => (pX5_image r57 x1 (fun r69 => (vp_in r69 8 ∧ (pX5_contrary (t_carriers (Int32.toNatClampNeg r69)) x3 (fun r74 => (pX5_after r74 r57 x3 (fun r85 => (pX8_sift t_sieve r85 x3 (fun t_sieve_89 => (R24 (x6 + 1) t_sieve_89)))))))))))))))))))

def pX8_siftProducts_3 (t_carriers : Nat → Int32) (t_reached : Nat → Int32) (K : (Nat → Int32) → Prop) (x1 : Int32) (x2 : Int32) (x3 : Int32) (x4 : Int32) (t_sieve : Nat → Int32) (R3 : Int32 → (Nat → Int32) → Prop) : Prop :=
  ((x2 ≤ x4 → (K t_sieve)) ∧ (¬ x2 ≤ x4 → (vp_in x4 8 ∧ (lpW2 (pX8_siftProducts_24 t_carriers t_reached R3 K x1 x2 x3 x4 (t_reached (Int32.toNatClampNeg x4))) (x1 * (8 : Int32)) t_sieve))))

def pX8_siftProducts (t_carriers : Nat → Int32) (t_reached : Nat → Int32) (t_sieve : Nat → Int32) (x1 : Int32) (x2 : Int32) (x3 : Int32) (K : (Nat → Int32) → Prop) : Prop :=
  (lpW2 (pX8_siftProducts_3 t_carriers t_reached K x1 x2 x3) (0 : Int32) t_sieve)

def pX8_orderOf_71 (p1_n : Int32) (p1_cells : Nat → Int32) (R10 : Int32 → (Nat → Int32) → Prop) (K : Int32 → (Nat → Int32) → (Nat → Int32) → (Nat → Int32) → Prop) (x2 : Int32) (x3 : Int32) (t_carriers : Nat → Int32) (t_reached : Nat → Int32) (t_sieve : Nat → Int32) (R71 : Int32 → Int32 → (Nat → Int32) → (Nat → Int32) → (Nat → Int32) → Prop) : Prop :=
  ((p1_n ≤ x3 → (K x2 t_carriers t_reached t_sieve)) ∧ (¬ p1_n ≤ x3 → (pX8_reachFrom t_carriers t_reached t_sieve x3 p1_n (fun r85 t_carriers_85 t_reached_85 => (pX8_siftProducts t_carriers_85 t_reached_85 t_sieve x3 r85 p1_n (fun t_sieve_103 => (R71 (x2 * r85) (x3 + 1) t_carriers_85 t_reached_85 t_sieve_103)))))))

def pX8_orderOf_23 (p1_n : Int32) (p1_cells : Nat → Int32) (R10 : Int32 → (Nat → Int32) → Prop) (K : Int32 → (Nat → Int32) → (Nat → Int32) → (Nat → Int32) → Prop) (t_carriers : Nat → Int32) (t_reached : Nat → Int32) (x2 : Int32) (t_sieve : Nat → Int32) (x3 : Int32) (x4 : Int32) (R23 : Int32 → Int32 → Prop) : Prop :=
  ((p1_n ≤ x4 → (pX8_sift t_sieve x3 p1_n (fun t_sieve_58 => (R10 (x2 + 1) t_sieve_58)))) ∧ (¬ p1_n ≤ x4 → (pX7_turned p1_cells x2 x4 (fun r39 => (pX5_with x3 x4 r39 (fun r42 => (R23 r42 (x4 + 1))))))))

def pX8_orderOf_10 (p1_n : Int32) (p1_cells : Nat → Int32) (K : Int32 → (Nat → Int32) → (Nat → Int32) → (Nat → Int32) → Prop) (t_carriers : Nat → Int32) (t_reached : Nat → Int32) (x2 : Int32) (t_sieve : Nat → Int32) (R10 : Int32 → (Nat → Int32) → Prop) : Prop :=
  ((p1_n ≤ x2 → (lpW5 (pX8_orderOf_71 p1_n p1_cells R10 K) (1 : Int32) (0 : Int32) t_carriers t_reached t_sieve)) ∧ (¬ p1_n ≤ x2 → (lpW2 (pX8_orderOf_23 p1_n p1_cells R10 K t_carriers t_reached x2 t_sieve) (0 : Int32) (0 : Int32))))

def pX8_orderOf (t_carriers : Nat → Int32) (t_reached : Nat → Int32) (t_sieve : Nat → Int32) (p1_n : Int32) (p1_cells : Nat → Int32) (K : Int32 → (Nat → Int32) → (Nat → Int32) → (Nat → Int32) → Prop) : Prop :=
  (pJ7_fill_53178 64 t_sieve (-1 : Int32) (fun t_sieve_5 => (lpW2 (pX8_orderOf_10 p1_n p1_cells K t_carriers t_reached) (0 : Int32) t_sieve_5)))

def pX3_tellSigns_65 (N_p1 : Nat) (p0_n : Int32) (p0_cells : Nat → Int32) (R7 : Int32 → (Nat → Int32) → Prop) (R17 : Int32 → (Nat → Int32) → Prop) (K : (Nat → Int32) → Prop) (x2 : Int32) (x3 : Int32) (x4 : Int32) (p1 : Nat → Int32) : Prop :=
  ((¬ x4 = x3 → (R17 (x3 + 1) p1)) ∧ (x4 = x3 → ((¬ x2 = x3 → (R17 (x3 + 1) p1)) ∧ (x2 = x3 → (vp_in x2 N_p1 ∧ (vp_in x2 N_p1 ∧ (R17 (x3 + 1) (upd p1 (Int32.toNatClampNeg x2) ((p1 (Int32.toNatClampNeg x2)) + (32768 : Int32))))))))))

def pX3_tellSigns_17 (N_p1 : Nat) (p0_n : Int32) (p0_cells : Nat → Int32) (R7 : Int32 → (Nat → Int32) → Prop) (K : (Nat → Int32) → Prop) (x2 : Int32) (x3 : Int32) (p1 : Nat → Int32) (R17 : Int32 → (Nat → Int32) → Prop) : Prop :=
  ((p0_n ≤ x3 → (R7 (x2 + 1) p1)) ∧ (¬ p0_n ≤ x3 → (pX7_turned p0_cells x2 x3 (fun r28 => (vp_in r28 N_p1 ∧ (vp_in r28 N_p1 ∧ ((¬ r28 = x3 → (pX3_tellSigns_65 N_p1 p0_n p0_cells R7 R17 K x2 x3 r28 (upd p1 (Int32.toNatClampNeg r28) ((p1 (Int32.toNatClampNeg r28)) + (1 : Int32))))) ∧ (r28 = x3 → (vp_in x2 N_p1 ∧ (vp_in x2 N_p1 ∧ (vp_in x3 N_p1 ∧ (vp_in x3 N_p1 ∧ (pX3_tellSigns_65 N_p1 p0_n p0_cells R7 R17 K x2 x3 r28 (upd (upd (upd p1 (Int32.toNatClampNeg r28) ((p1 (Int32.toNatClampNeg r28)) + (1 : Int32))) (Int32.toNatClampNeg x2) (((upd p1 (Int32.toNatClampNeg r28) ((p1 (Int32.toNatClampNeg r28)) + (1 : Int32))) (Int32.toNatClampNeg x2)) + (128 : Int32))) (Int32.toNatClampNeg x3) (((upd (upd p1 (Int32.toNatClampNeg r28) ((p1 (Int32.toNatClampNeg r28)) + (1 : Int32))) (Int32.toNatClampNeg x2) (((upd p1 (Int32.toNatClampNeg r28) ((p1 (Int32.toNatClampNeg r28)) + (1 : Int32))) (Int32.toNatClampNeg x2)) + (128 : Int32))) (Int32.toNatClampNeg x3)) + (2048 : Int32))))))))))))))))

def pX3_tellSigns_7 (N_p1 : Nat) (p0_n : Int32) (p0_cells : Nat → Int32) (K : (Nat → Int32) → Prop) (x2 : Int32) (p1 : Nat → Int32) (R7 : Int32 → (Nat → Int32) → Prop) : Prop :=
  ((p0_n ≤ x2 → (K p1)) ∧ (¬ p0_n ≤ x2 → (lpW2 (pX3_tellSigns_17 N_p1 p0_n p0_cells R7 K x2) (0 : Int32) p1)))

def pX3_tellSigns (N_p1 : Nat) (p0_n : Int32) (p0_cells : Nat → Int32) (p1 : Nat → Int32) (K : (Nat → Int32) → Prop) : Prop :=
  (pJ7_fill_53178 N_p1 p1 (0 : Int32) (fun p1_2 => (lpW2 (pX3_tellSigns_7 N_p1 p0_n p0_cells K) (0 : Int32) p1_2)))

def pX3_fits_126 (t_used : Int32) (t_signsHere : Nat → Int32) (t_signsThere : Nat → Int32) (p1_cells : Nat → Int32) (p2_cells : Nat → Int32) (R40 : Int32 → Prop) (R49 : Int32 → Prop) (K : Int32 → (Nat → Int32) → Prop) (x3 : Int32) (x5 : Int32) (t_images : Nat → Int32) (x6 : Int32) (x7 : Int32) (s0 : Int32) : Prop :=
  ((¬ s0 = 0 → (R49 (x7 + 1))) ∧ (s0 = 0 → (zb (0 : Int32) ∧ K (0 : Int32) t_images)))

def pX3_fits_49 (t_used : Int32) (t_signsHere : Nat → Int32) (t_signsThere : Nat → Int32) (p1_cells : Nat → Int32) (p2_cells : Nat → Int32) (R40 : Int32 → Prop) (K : Int32 → (Nat → Int32) → Prop) (x3 : Int32) (x5 : Int32) (t_images : Nat → Int32) (x6 : Int32) (x7 : Int32) (R49 : Int32 → Prop) : Prop :=
  ((x3 < x7 → (R40 (x6 + 1))) ∧ (¬ x3 < x7 → (pX7_turned p1_cells x6 x7 (fun r60 => (vp_in x6 8 ∧ (vp_in x7 8 ∧ (pX7_turned p2_cells (t_images (Int32.toNatClampNeg x6)) (t_images (Int32.toNatClampNeg x7)) (fun r80 => ((x3 < r60 → ((¬ ((x5 >>> (r80 &&& 31)) &&& (1 : Int32)) = 0 → (pX3_fits_126 t_used t_signsHere t_signsThere p1_cells p2_cells R40 R49 K x3 x5 t_images x6 x7 (0 : Int32))) ∧ (((x5 >>> (r80 &&& 31)) &&& (1 : Int32)) = 0 → (pX3_fits_126 t_used t_signsHere t_signsThere p1_cells p2_cells R40 R49 K x3 x5 t_images x6 x7 (1 : Int32))))) ∧ (¬ x3 < r60 → (vp_in r60 8 ∧ ((¬ (t_images (Int32.toNatClampNeg r60)) = r80 → (pX3_fits_126 t_used t_signsHere t_signsThere p1_cells p2_cells R40 R49 K x3 x5 t_images x6 x7 (0 : Int32))) ∧ ((t_images (Int32.toNatClampNeg r60)) = r80 → (pX3_fits_126 t_used t_signsHere t_signsThere p1_cells p2_cells R40 R49 K x3 x5 t_images x6 x7 (1 : Int32)))))))))))))))

def pX3_fits_40 (t_used : Int32) (t_signsHere : Nat → Int32) (t_signsThere : Nat → Int32) (p1_cells : Nat → Int32) (p2_cells : Nat → Int32) (K : Int32 → (Nat → Int32) → Prop) (x3 : Int32) (x5 : Int32) (t_images : Nat → Int32) (x6 : Int32) (R40 : Int32 → Prop) : Prop :=
  ((x3 < x6 → (zb (1 : Int32) ∧ K (1 : Int32) t_images)) ∧ (¬ x3 < x6 → (lpW1 (pX3_fits_49 t_used t_signsHere t_signsThere p1_cells p2_cells R40 K x3 x5 t_images x6) (0 : Int32))))

def pX3_fits (t_used : Int32) (t_images : Nat → Int32) (t_signsHere : Nat → Int32) (t_signsThere : Nat → Int32) (p1_cells : Nat → Int32) (p2_cells : Nat → Int32) (x3 : Int32) (x4 : Int32) (K : Int32 → (Nat → Int32) → Prop) : Prop :=
  (vp_in x3 8 ∧ (vp_in x4 8 ∧ (((t_signsHere (Int32.toNatClampNeg x3)) = (t_signsThere (Int32.toNatClampNeg x4)) → (vp_in x3 8 ∧ (lpW1 (pX3_fits_40 t_used t_signsHere t_signsThere p1_cells p2_cells K x3 (t_used ||| ((1 : Int32) <<< (x4 &&& 31))) (upd t_images (Int32.toNatClampNeg x3) x4)) (0 : Int32)))) ∧ (¬ (t_signsHere (Int32.toNatClampNeg x3)) = (t_signsThere (Int32.toNatClampNeg x4)) → (zb (0 : Int32) ∧ K (0 : Int32) t_images)))))

def pX3_canGoOnWith_b (rec : Int32 → (Nat → Int32) → (Nat → Int32) → (Nat → Int32) → Int32 → (Nat → Int32) → Int32 → (Nat → Int32) → Int32 → (Int32 → Int32 → (Nat → Int32) → Prop) → Prop) (t_used : Int32) (t_images : Nat → Int32) (t_signsHere : Nat → Int32) (t_signsThere : Nat → Int32) (p1_n : Int32) (p1_cells : Nat → Int32) (p2_n : Int32) (p2_cells : Nat → Int32) (x3 : Int32) (x4 : Int32) (K : Int32 → Int32 → (Nat → Int32) → Prop) : Prop :=
  (vp_in x3 8 ∧ (rec (t_used ||| ((1 : Int32) <<< (x4 &&& 31))) (upd t_images (Int32.toNatClampNeg x3) x4) t_signsHere t_signsThere p1_n p1_cells p2_n p2_cells (x3 + (1 : Int32)) (fun r27 t_used_27 t_images_27 => (zb r27 ∧ K r27 (t_used_27 &&& (((1 : Int32) <<< (x4 &&& 31)) ^^^ (-1 : Int32))) t_images_27))))

def pX3_canGoOn_13 (t_signsHere : Nat → Int32) (t_signsThere : Nat → Int32) (p1_n : Int32) (p1_cells : Nat → Int32) (p2_n : Int32) (p2_cells : Nat → Int32) (rec : Int32 → (Nat → Int32) → (Nat → Int32) → (Nat → Int32) → Int32 → (Nat → Int32) → Int32 → (Nat → Int32) → Int32 → Int32 → (Int32 → Int32 → (Nat → Int32) → Prop) → Prop) (K : Int32 → Int32 → (Nat → Int32) → Prop) (x3 : Int32) (x4 : Int32) (t_used : Int32) (t_images : Nat → Int32) (R13 : Int32 → Int32 → (Nat → Int32) → Prop) : Prop :=
  ((p2_n ≤ x4 → (zb (0 : Int32) ∧ K (0 : Int32) t_used t_images)) ∧ (¬ p2_n ≤ x4 → ((¬ ((t_used >>> (x4 &&& 31)) &&& (1 : Int32)) = 0 → (R13 (x4 + 1) t_used t_images)) ∧ (((t_used >>> (x4 &&& 31)) &&& (1 : Int32)) = 0 → (pX3_fits t_used t_images t_signsHere t_signsThere p1_cells p2_cells x3 x4 (fun r40 t_images_40 => ((r40 = 0 → (R13 (x4 + 1) t_used t_images_40)) ∧ (¬ r40 = 0 → (rec t_used t_images_40 t_signsHere t_signsThere p1_n p1_cells p2_n p2_cells x3 x4 (fun r52 t_used_52 t_images_52 => ((r52 = 0 → (R13 (x4 + 1) t_used_52 t_images_52)) ∧ (¬ r52 = 0 → (zb (1 : Int32) ∧ K (1 : Int32) t_used_52 t_images_52)))))))))))))

def pX3_canGoOn_b (rec : Int32 → (Nat → Int32) → (Nat → Int32) → (Nat → Int32) → Int32 → (Nat → Int32) → Int32 → (Nat → Int32) → Int32 → Int32 → (Int32 → Int32 → (Nat → Int32) → Prop) → Prop) (t_used : Int32) (t_images : Nat → Int32) (t_signsHere : Nat → Int32) (t_signsThere : Nat → Int32) (p1_n : Int32) (p1_cells : Nat → Int32) (p2_n : Int32) (p2_cells : Nat → Int32) (x3 : Int32) (K : Int32 → Int32 → (Nat → Int32) → Prop) : Prop :=
  ((x3 < p1_n → (lpW3 (pX3_canGoOn_13 t_signsHere t_signsThere p1_n p1_cells p2_n p2_cells rec K x3) (0 : Int32) t_used t_images)) ∧ (¬ x3 < p1_n → (zb (1 : Int32) ∧ K (1 : Int32) t_used t_images)))

def pX3_canGoOn : Nat → Int32 → (Nat → Int32) → (Nat → Int32) → (Nat → Int32) → Int32 → (Nat → Int32) → Int32 → (Nat → Int32) → Int32 → (Int32 → Int32 → (Nat → Int32) → Prop) → Prop
  | 0 => fun _ _ _ _ _ _ _ _ _ _ => False
  | d + 1 => pX3_canGoOn_b (pX3_canGoOnWith_b (pX3_canGoOn d))

def pX3_canGoOnWith (d : Nat) : Int32 → (Nat → Int32) → (Nat → Int32) → (Nat → Int32) → Int32 → (Nat → Int32) → Int32 → (Nat → Int32) → Int32 → Int32 → (Int32 → Int32 → (Nat → Int32) → Prop) → Prop := pX3_canGoOnWith_b (pX3_canGoOn d)

def pX3_matches_46 (p1_n : Int32) (p1_cells : Nat → Int32) (p2_n : Int32) (p2_cells : Nat → Int32) (K : Int32 → Int32 → (Nat → Int32) → (Nat → Int32) → (Nat → Int32) → Prop) (t_used : Int32) (t_images : Nat → Int32) (t_signsHere : Nat → Int32) (t_signsThere : Nat → Int32) : Prop :=
  (zb (0 : Int32) ∧ K (0 : Int32) t_used t_images t_signsHere t_signsThere)

def pX3_matches (t_used : Int32) (t_images : Nat → Int32) (t_signsHere : Nat → Int32) (t_signsThere : Nat → Int32) (p1_n : Int32) (p1_cells : Nat → Int32) (p2_n : Int32) (p2_cells : Nat → Int32) (K : Int32 → Int32 → (Nat → Int32) → (Nat → Int32) → (Nat → Int32) → Prop) : Prop :=
  (pX3_tellSigns 8 p1_n p1_cells t_signsHere (fun t_signsHere_10 => (pX3_tellSigns 8 p2_n p2_cells t_signsThere (fun t_signsThere_18 => ((¬ p1_n = p2_n → (pX3_matches_46 p1_n p1_cells p2_n p2_cells K (0 : Int32) t_images t_signsHere_10 t_signsThere_18)) ∧ (p1_n = p2_n → (pX3_canGoOn 10 (0 : Int32) t_images t_signsHere_10 t_signsThere_18 p1_n p1_cells p2_n p2_cells (0 : Int32) (fun r36 t_used_36 t_images_36 => ((r36 = 0 → (pX3_matches_46 p1_n p1_cells p2_n p2_cells K t_used_36 t_images_36 t_signsHere_10 t_signsThere_18)) ∧ (¬ r36 = 0 → (zb (1 : Int32) ∧ K (1 : Int32) t_used_36 t_images_36 t_signsHere_10 t_signsThere_18)))))))))))

def pX3_countKeepers_39 (p1_n : Int32) (p1_cells : Nat → Int32) (R25 : Int32 → Int32 → Int32 → (Nat → Int32) → Prop) (K : Int32 → Int32 → (Nat → Int32) → (Nat → Int32) → (Nat → Int32) → Prop) (t_signsHere : Nat → Int32) (t_signsThere : Nat → Int32) (x2 : Int32) (x3 : Int32) (x4 : Int32) (x5 : Int32) (t_used : Int32) (t_images : Nat → Int32) (R39 : Int32 → Int32 → Int32 → (Nat → Int32) → Prop) : Prop :=
  ((p1_n ≤ x5 → (vp_in x3 8 ∧ (R25 (x2 * x4) (x3 + 1) (t_used ||| ((1 : Int32) <<< (x3 &&& 31))) (upd t_images (Int32.toNatClampNeg x3) x3)))) ∧ (¬ p1_n ≤ x5 → (pX3_fits t_used t_images t_signsHere t_signsThere p1_cells p1_cells x3 x5 (fun r54 t_images_54 => ((r54 = 0 → (R39 x4 (x5 + 1) t_used t_images_54)) ∧ (¬ r54 = 0 → (pX3_canGoOnWith 10 t_used t_images_54 t_signsHere t_signsThere p1_n p1_cells p1_n p1_cells x3 x5 (fun r66 t_used_66 t_images_66 => ((r66 = 0 → (R39 x4 (x5 + 1) t_used_66 t_images_66)) ∧ (¬ r66 = 0 → (R39 (x4 + 1) (x5 + 1) t_used_66 t_images_66)))))))))))

def pX3_countKeepers_25 (p1_n : Int32) (p1_cells : Nat → Int32) (K : Int32 → Int32 → (Nat → Int32) → (Nat → Int32) → (Nat → Int32) → Prop) (t_signsHere : Nat → Int32) (t_signsThere : Nat → Int32) (x2 : Int32) (x3 : Int32) (t_used : Int32) (t_images : Nat → Int32) (R25 : Int32 → Int32 → Int32 → (Nat → Int32) → Prop) : Prop :=
  ((p1_n ≤ x3 → (K x2 t_used t_images t_signsHere t_signsThere)) ∧ (¬ p1_n ≤ x3 → (lpW4 (pX3_countKeepers_39 p1_n p1_cells R25 K t_signsHere t_signsThere x2 x3) (0 : Int32) x3 t_used t_images)))

def pX3_countKeepers (t_used : Int32) (t_images : Nat → Int32) (t_signsHere : Nat → Int32) (t_signsThere : Nat → Int32) (p1_n : Int32) (p1_cells : Nat → Int32) (K : Int32 → Int32 → (Nat → Int32) → (Nat → Int32) → (Nat → Int32) → Prop) : Prop :=
  (pX3_tellSigns 8 p1_n p1_cells t_signsHere (fun t_signsHere_10 => (pX3_tellSigns 8 p1_n p1_cells t_signsThere (fun t_signsThere_18 => (lpW4 (pX3_countKeepers_25 p1_n p1_cells K t_signsHere_10 t_signsThere_18) (1 : Int32) (0 : Int32) (0 : Int32) t_images)))))

def pX4_swapped (x0 : Int32) (x1 : Int32) (x2 : Int32) (K : Int32 → Prop) : Prop :=
  ((¬ x0 = x1 → ((¬ x0 = x2 → (K x0)) ∧ (x0 = x2 → (K x1)))) ∧ (x0 = x1 → (K x2)))

def pX4_areTwins_13 (p0_n : Int32) (p0_cells : Nat → Int32) (R2 : Int32 → Prop) (K : Int32 → Prop) (x1 : Int32) (x2 : Int32) (x3 : Int32) (x4 : Int32) (R13 : Int32 → Prop) : Prop :=
  ((p0_n ≤ x4 → (R2 (x3 + 1))) ∧ (¬ p0_n ≤ x4 → (pX4_swapped x3 x1 x2 (fun r26 => (pX4_swapped x4 x1 x2 (fun r33 => (pX7_turned p0_cells r26 r33 (fun r36 => (pX7_turned p0_cells x3 x4 (fun r47 => (pX4_swapped r47 x1 x2 (fun r52 => ((r36 = r52 → (R13 (x4 + 1))) ∧ (¬ r36 = r52 → (zb (0 : Int32) ∧ K (0 : Int32))))))))))))))))

def pX4_areTwins_2 (p0_n : Int32) (p0_cells : Nat → Int32) (K : Int32 → Prop) (x1 : Int32) (x2 : Int32) (x3 : Int32) (R2 : Int32 → Prop) : Prop :=
  ((p0_n ≤ x3 → (zb (1 : Int32) ∧ K (1 : Int32))) ∧ (¬ p0_n ≤ x3 → (lpW1 (pX4_areTwins_13 p0_n p0_cells R2 K x1 x2 x3) (0 : Int32))))

def pX4_areTwins (p0_n : Int32) (p0_cells : Nat → Int32) (x1 : Int32) (x2 : Int32) (K : Int32 → Prop) : Prop :=
  (lpW1 (pX4_areTwins_2 p0_n p0_cells K x1 x2) (0 : Int32))

def pX4_findTwins_19 (p1_n : Int32) (p1_cells : Nat → Int32) (R2 : Int32 → (Nat → Int32) → Prop) (K : (Nat → Int32) → Prop) (x2 : Int32) (x3 : Int32) (t_twins : Nat → Int32) (R19 : Int32 → (Nat → Int32) → Prop) : Prop :=
  ((x2 ≤ x3 → (R2 (x2 + 1) t_twins)) ∧ (¬ x2 ≤ x3 → (pX4_areTwins p1_n p1_cells x2 x3 (fun r27 => ((r27 = 0 → (R19 (x3 + 1) t_twins)) ∧ (¬ r27 = 0 → (vp_in x2 8 ∧ (vp_in x2 8 ∧ (R19 (x3 + 1) (upd t_twins (Int32.toNatClampNeg x2) ((t_twins (Int32.toNatClampNeg x2)) ||| ((1 : Int32) <<< (x3 &&& 31)))))))))))))

def pX4_findTwins_2 (p1_n : Int32) (p1_cells : Nat → Int32) (K : (Nat → Int32) → Prop) (x2 : Int32) (t_twins : Nat → Int32) (R2 : Int32 → (Nat → Int32) → Prop) : Prop :=
  ((p1_n ≤ x2 → (K t_twins)) ∧ (¬ p1_n ≤ x2 → (vp_in x2 8 ∧ (lpW2 (pX4_findTwins_19 p1_n p1_cells R2 K x2) (0 : Int32) (upd t_twins (Int32.toNatClampNeg x2) (0 : Int32))))))

def pX4_findTwins (t_twins : Nat → Int32) (p1_n : Int32) (p1_cells : Nat → Int32) (K : (Nat → Int32) → Prop) : Prop :=
  (lpW2 (pX4_findTwins_2 p1_n p1_cells K) (0 : Int32) t_twins)

def pX4_isLess_12 (t_best_cells : Nat → Int32) (t_names : Nat → Int32) (t_things : Nat → Int32) (p1_n : Int32) (p1_cells : Nat → Int32) (R2 : Int32 → Prop) (K : Int32 → Prop) (x2 : Int32) (x3 : Int32) (R12 : Int32 → Prop) : Prop :=
  ((p1_n ≤ x3 → (R2 (x2 + 1))) ∧ (¬ p1_n ≤ x3 → (vp_in x2 8 ∧ (vp_in x3 8 ∧ (pX7_turned p1_cells (t_things (Int32.toNatClampNeg x2)) (t_things (Int32.toNatClampNeg x3)) (fun r37 => (vp_in r37 8 ∧ (pX7_turned t_best_cells x2 x3 (fun r51 => (((t_names (Int32.toNatClampNeg r37)) = r51 → (R12 (x3 + 1))) ∧ (¬ (t_names (Int32.toNatClampNeg r37)) = r51 → (pX7_turned t_best_cells x2 x3 (fun r65 => ((r65 ≤ (t_names (Int32.toNatClampNeg r37)) → (zb (0 : Int32) ∧ K (0 : Int32))) ∧ (¬ r65 ≤ (t_names (Int32.toNatClampNeg r37)) → (zb (1 : Int32) ∧ K (1 : Int32)))))))))))))))))

def pX4_isLess_2 (t_best_cells : Nat → Int32) (t_names : Nat → Int32) (t_things : Nat → Int32) (p1_n : Int32) (p1_cells : Nat → Int32) (K : Int32 → Prop) (x2 : Int32) (R2 : Int32 → Prop) : Prop :=
  ((p1_n ≤ x2 → (zb (0 : Int32) ∧ K (0 : Int32))) ∧ (¬ p1_n ≤ x2 → (lpW1 (pX4_isLess_12 t_best_cells t_names t_things p1_n p1_cells R2 K x2) (0 : Int32))))

def pX4_isLess (t_best_cells : Nat → Int32) (t_names : Nat → Int32) (t_things : Nat → Int32) (p1_n : Int32) (p1_cells : Nat → Int32) (K : Int32 → Prop) : Prop :=
  (lpW1 (pX4_isLess_2 t_best_cells t_names t_things p1_n p1_cells K) (0 : Int32))

def pX4_makeBest_12 (t_names : Nat → Int32) (t_things : Nat → Int32) (p1_n : Int32) (p1_cells : Nat → Int32) (R2 : Int32 → (Nat → Int32) → Prop) (K : (Nat → Int32) → Prop) (x2 : Int32) (x3 : Int32) (t_best_cells : Nat → Int32) (R12 : Int32 → (Nat → Int32) → Prop) : Prop :=
  ((p1_n ≤ x3 → (R2 (x2 + 1) t_best_cells)) ∧ (¬ p1_n ≤ x3 → (vp_in x2 8 ∧ (vp_in x3 8 ∧ (pX7_turned p1_cells (t_things (Int32.toNatClampNeg x2)) (t_things (Int32.toNatClampNeg x3)) (fun r43 => (vp_in r43 8 ∧ (pX7_put t_best_cells x2 x3 (t_names (Int32.toNatClampNeg r43)) (fun t_best_cells_47 => (R12 (x3 + 1) t_best_cells_47))))))))))

def pX4_makeBest_2 (t_names : Nat → Int32) (t_things : Nat → Int32) (p1_n : Int32) (p1_cells : Nat → Int32) (K : (Nat → Int32) → Prop) (x2 : Int32) (t_best_cells : Nat → Int32) (R2 : Int32 → (Nat → Int32) → Prop) : Prop :=
  ((p1_n ≤ x2 → (K t_best_cells)) ∧ (¬ p1_n ≤ x2 → (lpW2 (pX4_makeBest_12 t_names t_things p1_n p1_cells R2 K x2) (0 : Int32) t_best_cells)))

def pX4_makeBest (t_best_cells : Nat → Int32) (t_names : Nat → Int32) (t_things : Nat → Int32) (p1_n : Int32) (p1_cells : Nat → Int32) (K : (Nat → Int32) → Prop) : Prop :=
  (lpW2 (pX4_makeBest_2 t_names t_things p1_n p1_cells K) (0 : Int32) t_best_cells)

def pX4_give (t_named : Int32) (t_names : Nat → Int32) (t_things : Nat → Int32) (x1 : Int32) (K : Int32 → (Nat → Int32) → (Nat → Int32) → Prop) : Prop :=
  (vp_in t_named 8 ∧ (vp_in x1 8 ∧ (K (t_named + (1 : Int32)) (upd t_names (Int32.toNatClampNeg x1) t_named) (upd t_things (Int32.toNatClampNeg t_named) x1))))

def pX4_isAboveBest_2 (t_best_cells : Nat → Int32) (t_firstRow : Nat → Int32) (K : Int32 → Prop) (x1 : Int32) (x2 : Int32) (R2 : Int32 → Prop) : Prop :=
  ((x1 < x2 → (zb (0 : Int32) ∧ K (0 : Int32))) ∧ (¬ x1 < x2 → (vp_in x2 8 ∧ (pX7_turned t_best_cells (0 : Int32) x2 (fun r19 => (((t_firstRow (Int32.toNatClampNeg x2)) = r19 → (R2 (x2 + 1))) ∧ (¬ (t_firstRow (Int32.toNatClampNeg x2)) = r19 → (vp_in x2 8 ∧ (pX7_turned t_best_cells (0 : Int32) x2 (fun r37 => (((t_firstRow (Int32.toNatClampNeg x2)) ≤ r37 → (zb (0 : Int32) ∧ K (0 : Int32))) ∧ (¬ (t_firstRow (Int32.toNatClampNeg x2)) ≤ r37 → (zb (1 : Int32) ∧ K (1 : Int32))))))))))))))

def pX4_isAboveBest (t_best_cells : Nat → Int32) (t_firstRow : Nat → Int32) (x1 : Int32) (K : Int32 → Prop) : Prop :=
  (lpW1 (pX4_isAboveBest_2 t_best_cells t_firstRow K x1) (0 : Int32))

def pX4_takeBack (t_named : Int32) (t_names : Nat → Int32) (x1 : Int32) (K : Int32 → (Nat → Int32) → Prop) : Prop :=
  (vp_in x1 8 ∧ (K (t_named - (1 : Int32)) (upd t_names (Int32.toNatClampNeg x1) (-1 : Int32))))

def pX4_goThrough_72 (t_twins : Nat → Int32) (p1_n : Int32) (p1_cells : Nat → Int32) (rec : Int32 → (Nat → Int32) → (Nat → Int32) → (Nat → Int32) → (Nat → Int32) → (Nat → Int32) → Int32 → (Nat → Int32) → Int32 → (Int32 → (Nat → Int32) → (Nat → Int32) → (Nat → Int32) → (Nat → Int32) → Prop) → Prop) (K : Int32 → (Nat → Int32) → (Nat → Int32) → (Nat → Int32) → (Nat → Int32) → Prop) (x3 : Int32) (x4 : Int32) (t_named : Int32) (t_best_cells : Nat → Int32) (t_firstRow : Nat → Int32) (t_names : Nat → Int32) (t_things : Nat → Int32) : Prop :=
  ((x4 = 0 → (K t_named t_best_cells t_firstRow t_names t_things)) ∧ (¬ x4 = 0 → (pX4_takeBack t_named t_names x3 (fun t_named_79 t_names_79 => (K t_named_79 t_best_cells t_firstRow t_names_79 t_things)))))

def pX4_goThrough_44 (t_twins : Nat → Int32) (p1_n : Int32) (p1_cells : Nat → Int32) (rec : Int32 → (Nat → Int32) → (Nat → Int32) → (Nat → Int32) → (Nat → Int32) → (Nat → Int32) → Int32 → (Nat → Int32) → Int32 → (Int32 → (Nat → Int32) → (Nat → Int32) → (Nat → Int32) → (Nat → Int32) → Prop) → Prop) (K : Int32 → (Nat → Int32) → (Nat → Int32) → (Nat → Int32) → (Nat → Int32) → Prop) (x2 : Int32) (x3 : Int32) (x4 : Int32) (t_named : Int32) (t_best_cells : Nat → Int32) (t_firstRow : Nat → Int32) (t_names : Nat → Int32) (t_things : Nat → Int32) : Prop :=
  (vp_in x3 8 ∧ (vp_in x2 8 ∧ (pX4_isAboveBest t_best_cells (upd t_firstRow (Int32.toNatClampNeg x2) (t_names (Int32.toNatClampNeg x3))) x2 (fun r58 => ((¬ r58 = 0 → (pX4_goThrough_72 t_twins p1_n p1_cells rec K x3 x4 t_named t_best_cells (upd t_firstRow (Int32.toNatClampNeg x2) (t_names (Int32.toNatClampNeg x3))) t_names t_things)) ∧ (r58 = 0 → (rec t_named t_best_cells (upd t_firstRow (Int32.toNatClampNeg x2) (t_names (Int32.toNatClampNeg x3))) t_names t_things t_twins p1_n p1_cells (x2 + (1 : Int32)) (fun t_named_69 t_best_cells_69 t_firstRow_69 t_names_69 t_things_69 => (pX4_goThrough_72 t_twins p1_n p1_cells rec K x3 x4 t_named_69 t_best_cells_69 t_firstRow_69 t_names_69 t_things_69)))))))))

def pX4_goThrough_32 (t_twins : Nat → Int32) (p1_n : Int32) (p1_cells : Nat → Int32) (rec : Int32 → (Nat → Int32) → (Nat → Int32) → (Nat → Int32) → (Nat → Int32) → (Nat → Int32) → Int32 → (Nat → Int32) → Int32 → (Int32 → (Nat → Int32) → (Nat → Int32) → (Nat → Int32) → (Nat → Int32) → Prop) → Prop) (K : Int32 → (Nat → Int32) → (Nat → Int32) → (Nat → Int32) → (Nat → Int32) → Prop) (x2 : Int32) (x3 : Int32) (s0 : Int32) (t_named : Int32) (t_best_cells : Nat → Int32) (t_firstRow : Nat → Int32) (t_names : Nat → Int32) (t_things : Nat → Int32) : Prop :=
  ((s0 = 0 → (pX4_goThrough_44 t_twins p1_n p1_cells rec K x2 x3 s0 t_named t_best_cells t_firstRow t_names t_things)) ∧ (¬ s0 = 0 → (pX4_give t_named t_names t_things x3 (fun t_named_41 t_names_41 t_things_41 => (pX4_goThrough_44 t_twins p1_n p1_cells rec K x2 x3 s0 t_named_41 t_best_cells t_firstRow t_names_41 t_things_41)))))

def pX4_goThrough_b (rec : Int32 → (Nat → Int32) → (Nat → Int32) → (Nat → Int32) → (Nat → Int32) → (Nat → Int32) → Int32 → (Nat → Int32) → Int32 → (Int32 → (Nat → Int32) → (Nat → Int32) → (Nat → Int32) → (Nat → Int32) → Prop) → Prop) (t_named : Int32) (t_best_cells : Nat → Int32) (t_firstRow : Nat → Int32) (t_names : Nat → Int32) (t_things : Nat → Int32) (t_twins : Nat → Int32) (p1_n : Int32) (p1_cells : Nat → Int32) (x2 : Int32) (K : Int32 → (Nat → Int32) → (Nat → Int32) → (Nat → Int32) → (Nat → Int32) → Prop) : Prop :=
  (vp_in (0 : Int32) 8 ∧ (vp_in x2 8 ∧ (pX7_turned p1_cells (t_things (Int32.toNatClampNeg (0 : Int32))) (t_things (Int32.toNatClampNeg x2)) (fun r13 => (vp_in r13 8 ∧ ((¬ (t_names (Int32.toNatClampNeg r13)) = (-1 : Int32) → (pX4_goThrough_32 t_twins p1_n p1_cells rec K x2 r13 (0 : Int32) t_named t_best_cells t_firstRow t_names t_things)) ∧ ((t_names (Int32.toNatClampNeg r13)) = (-1 : Int32) → (pX4_goThrough_32 t_twins p1_n p1_cells rec K x2 r13 (1 : Int32) t_named t_best_cells t_firstRow t_names t_things))))))))

def pX4_hasOpenTwin_2 (t_names : Nat → Int32) (t_twins : Nat → Int32) (K : Int32 → Prop) (x1 : Int32) (x2 : Int32) (x3 : Int32) (R2 : Int32 → Prop) : Prop :=
  ((x2 ≤ x3 → (zb (0 : Int32) ∧ K (0 : Int32))) ∧ (¬ x2 ≤ x3 → ((x1 ≤ x3 → (zb (0 : Int32) ∧ K (0 : Int32))) ∧ (¬ x1 ≤ x3 → (vp_in x2 8 ∧ ((¬ (((t_twins (Int32.toNatClampNeg x2)) >>> (x3 &&& 31)) &&& (1 : Int32)) = (1 : Int32) → (R2 (x3 + 1))) ∧ ((((t_twins (Int32.toNatClampNeg x2)) >>> (x3 &&& 31)) &&& (1 : Int32)) = (1 : Int32) → (vp_in x3 8 ∧ ((¬ (t_names (Int32.toNatClampNeg x3)) = (-1 : Int32) → (R2 (x3 + 1))) ∧ ((t_names (Int32.toNatClampNeg x3)) = (-1 : Int32) → (zb (1 : Int32) ∧ K (1 : Int32))))))))))))

def pX4_hasOpenTwin (t_names : Nat → Int32) (t_twins : Nat → Int32) (x1 : Int32) (x2 : Int32) (K : Int32 → Prop) : Prop :=
  (lpW1 (pX4_hasOpenTwin_2 t_names t_twins K x1 x2) (0 : Int32))

def pX4_nameColumn_39 (t_twins : Nat → Int32) (p1_n : Int32) (p1_cells : Nat → Int32) (rec : Int32 → (Nat → Int32) → (Nat → Int32) → (Nat → Int32) → (Nat → Int32) → (Nat → Int32) → Int32 → (Nat → Int32) → Int32 → (Int32 → (Nat → Int32) → (Nat → Int32) → (Nat → Int32) → (Nat → Int32) → Prop) → Prop) (K : Int32 → (Nat → Int32) → (Nat → Int32) → (Nat → Int32) → (Nat → Int32) → Prop) (x2 : Int32) (x3 : Int32) (t_named : Int32) (t_best_cells : Nat → Int32) (t_firstRow : Nat → Int32) (t_names : Nat → Int32) (t_things : Nat → Int32) (R39 : Int32 → Int32 → (Nat → Int32) → (Nat → Int32) → (Nat → Int32) → (Nat → Int32) → Prop) : Prop :=
  ((p1_n ≤ x3 → (K t_named t_best_cells t_firstRow t_names t_things)) ∧ (¬ p1_n ≤ x3 → (vp_in x3 8 ∧ ((¬ (t_names (Int32.toNatClampNeg x3)) = (-1 : Int32) → (R39 (x3 + 1) t_named t_best_cells t_firstRow t_names t_things)) ∧ ((t_names (Int32.toNatClampNeg x3)) = (-1 : Int32) → (pX4_hasOpenTwin t_names t_twins p1_n x3 (fun r63 => ((¬ r63 = 0 → (R39 (x3 + 1) t_named t_best_cells t_firstRow t_names t_things)) ∧ (r63 = 0 → (pX4_give t_named t_names t_things x3 (fun t_named_71 t_names_71 t_things_71 => (rec t_named_71 t_best_cells t_firstRow t_names_71 t_things_71 t_twins p1_n p1_cells x2 (fun t_named_77 t_best_cells_77 t_firstRow_77 t_names_77 t_things_77 => (pX4_takeBack t_named_77 t_names_77 x3 (fun t_named_82 t_names_82 => (R39 (x3 + 1) t_named_82 t_best_cells_77 t_firstRow_77 t_names_82 t_things_77))))))))))))))))

def pX4_nameColumn_b (rec : Int32 → (Nat → Int32) → (Nat → Int32) → (Nat → Int32) → (Nat → Int32) → (Nat → Int32) → Int32 → (Nat → Int32) → Int32 → (Int32 → (Nat → Int32) → (Nat → Int32) → (Nat → Int32) → (Nat → Int32) → Prop) → Prop) (t_named : Int32) (t_best_cells : Nat → Int32) (t_firstRow : Nat → Int32) (t_names : Nat → Int32) (t_things : Nat → Int32) (t_twins : Nat → Int32) (p1_n : Int32) (p1_cells : Nat → Int32) (x2 : Int32) (K : Int32 → (Nat → Int32) → (Nat → Int32) → (Nat → Int32) → (Nat → Int32) → Prop) : Prop :=
  ((x2 < p1_n → ((t_named ≤ x2 → (lpW6 (pX4_nameColumn_39 t_twins p1_n p1_cells rec K x2) (0 : Int32) t_named t_best_cells t_firstRow t_names t_things)) ∧ (¬ t_named ≤ x2 → (rec t_named t_best_cells t_firstRow t_names t_things t_twins p1_n p1_cells x2 (fun t_named_33 t_best_cells_33 t_firstRow_33 t_names_33 t_things_33 => (K t_named_33 t_best_cells_33 t_firstRow_33 t_names_33 t_things_33)))))) ∧ (¬ x2 < p1_n → (pX4_isLess t_best_cells t_names t_things p1_n p1_cells (fun r10 => ((r10 = 0 → (K t_named t_best_cells t_firstRow t_names t_things)) ∧ (¬ r10 = 0 → (pX4_makeBest t_best_cells t_names t_things p1_n p1_cells (fun t_best_cells_18 => (K t_named t_best_cells_18 t_firstRow t_names t_things)))))))))

def pX4_nameColumn : Nat → Int32 → (Nat → Int32) → (Nat → Int32) → (Nat → Int32) → (Nat → Int32) → (Nat → Int32) → Int32 → (Nat → Int32) → Int32 → (Int32 → (Nat → Int32) → (Nat → Int32) → (Nat → Int32) → (Nat → Int32) → Prop) → Prop
  | 0 => fun _ _ _ _ _ _ _ _ _ _ => False
  | d + 1 => pX4_nameColumn_b (pX4_goThrough_b (pX4_nameColumn d))

def pX4_goThrough (d : Nat) : Int32 → (Nat → Int32) → (Nat → Int32) → (Nat → Int32) → (Nat → Int32) → (Nat → Int32) → Int32 → (Nat → Int32) → Int32 → (Int32 → (Nat → Int32) → (Nat → Int32) → (Nat → Int32) → (Nat → Int32) → Prop) → Prop := pX4_goThrough_b (pX4_nameColumn d)

def pX4_isBest_12 (t_best_cells : Nat → Int32) (p1_n : Int32) (p1_cells : Nat → Int32) (R2 : Int32 → Prop) (K : Int32 → Prop) (x2 : Int32) (x3 : Int32) (R12 : Int32 → Prop) : Prop :=
  ((p1_n ≤ x3 → (R2 (x2 + 1))) ∧ (¬ p1_n ≤ x3 → (pX7_turned p1_cells x2 x3 (fun r23 => (pX7_turned t_best_cells x2 x3 (fun r32 => ((r23 = r32 → (R12 (x3 + 1))) ∧ (¬ r23 = r32 → (zb (0 : Int32) ∧ K (0 : Int32))))))))))

def pX4_isBest_2 (t_best_cells : Nat → Int32) (p1_n : Int32) (p1_cells : Nat → Int32) (K : Int32 → Prop) (x2 : Int32) (R2 : Int32 → Prop) : Prop :=
  ((p1_n ≤ x2 → (zb (1 : Int32) ∧ K (1 : Int32))) ∧ (¬ p1_n ≤ x2 → (lpW1 (pX4_isBest_12 t_best_cells p1_n p1_cells R2 K x2) (0 : Int32))))

def pX4_isBest (t_best_cells : Nat → Int32) (p1_n : Int32) (p1_cells : Nat → Int32) (K : Int32 → Prop) : Prop :=
  (lpW1 (pX4_isBest_2 t_best_cells p1_n p1_cells K) (0 : Int32))

def pX4_lessen (t_named : Int32) (t_best_n : Int32) (t_best_cells : Nat → Int32) (t_firstRow : Nat → Int32) (t_names : Nat → Int32) (t_things : Nat → Int32) (t_twins : Nat → Int32) (p1_n : Int32) (p1_cells : Nat → Int32) (K : Int32 → Int32 → Int32 → (Nat → Int32) → (Nat → Int32) → (Nat → Int32) → (Nat → Int32) → (Nat → Int32) → Prop) : Prop :=
  (pX7_copy t_best_n t_best_cells p1_n p1_cells (fun t_best_n_5 t_best_cells_5 => (pJ7_fill_53178 8 t_names (-1 : Int32) (fun t_names_18 => (pX4_findTwins t_twins p1_n p1_cells (fun t_twins_23 => (pX4_nameColumn 10 (0 : Int32) t_best_cells_5 t_firstRow t_names_18 t_things t_twins_23 p1_n p1_cells (0 : Int32) (fun t_named_29 t_best_cells_29 t_firstRow_29 t_names_29 t_things_29 => (pX4_isBest t_best_cells_29 p1_n p1_cells (fun r34 => ((¬ r34 = 0 → (zb (0 : Int32) ∧ K (0 : Int32) t_named_29 t_best_n_5 t_best_cells_29 t_firstRow_29 t_names_29 t_things_29 t_twins_23)) ∧ (r34 = 0 → (zb (1 : Int32) ∧ K (1 : Int32) t_named_29 t_best_n_5 t_best_cells_29 t_firstRow_29 t_names_29 t_things_29 t_twins_23)))))))))))))

def pX2_keepTrial_20 (t_trial_n : Int32) (t_trial_cells : Nat → Int32) (R12 : Int32 → Int32 → Prop) (K : (Nat → Nat → Int32) → (Nat → Int32) → Prop) (x1 : Int32) (t_racks : Nat → Nat → Int32) (t_sizes : Nat → Int32) (x3 : Int32) (x2 : Int32) (x4 : Int32) (R20 : Int32 → Int32 → Prop) : Prop :=
  ((x1 ≤ x4 → (R12 x2 (x3 + 1))) ∧ (¬ x1 ≤ x4 → (pX7_turned t_trial_cells x3 x4 (fun r34 => (R20 (x2 ||| (r34 <<< (((2 : Int32) * ((x3 * x1) + x4)) &&& 31))) (x4 + 1))))))

def pX2_keepTrial_12 (t_trial_n : Int32) (t_trial_cells : Nat → Int32) (K : (Nat → Nat → Int32) → (Nat → Int32) → Prop) (x1 : Int32) (t_racks : Nat → Nat → Int32) (t_sizes : Nat → Int32) (x2 : Int32) (x3 : Int32) (R12 : Int32 → Int32 → Prop) : Prop :=
  ((x1 ≤ x3 → (vp_in x1 5 ∧ (((19 : Int32) ≤ (t_sizes (Int32.toNatClampNeg x1)) → (K t_racks t_sizes)) ∧ (¬ (19 : Int32) ≤ (t_sizes (Int32.toNatClampNeg x1)) → (vp_in x1 5 ∧ (vp_in x1 5 ∧ (vp_in (t_sizes (Int32.toNatClampNeg x1)) 19 ∧ (vp_in x1 5 ∧ (vp_in x1 5 ∧ (K (va_up t_racks (Int32.toNatClampNeg x1) (upd (t_racks (Int32.toNatClampNeg x1)) (Int32.toNatClampNeg (t_sizes (Int32.toNatClampNeg x1))) x2)) (upd t_sizes (Int32.toNatClampNeg x1) ((t_sizes (Int32.toNatClampNeg x1)) + (1 : Int32))))))))))))) ∧ (¬ x1 ≤ x3 → (lpW2 (pX2_keepTrial_20 t_trial_n t_trial_cells R12 K x1 t_racks t_sizes x3) x2 (0 : Int32))))

def pX2_keepTrial (t_racks : Nat → Nat → Int32) (t_sizes : Nat → Int32) (t_trial_n : Int32) (t_trial_cells : Nat → Int32) (K : (Nat → Nat → Int32) → (Nat → Int32) → Prop) : Prop :=
  (lpW2 (pX2_keepTrial_12 t_trial_n t_trial_cells K t_trial_n t_racks t_sizes) (0 : Int32) (0 : Int32))

def pX2_agreesUpTo_28 (t_trial_n : Int32) (t_trial_cells : Nat → Int32) (R2 : Int32 → Prop) (R9 : Int32 → Prop) (K : Int32 → Prop) (x1 : Int32) (x2 : Int32) (x3 : Int32) (x4 : Int32) (x5 : Int32) (R28 : Int32 → Prop) : Prop :=
  ((t_trial_n ≤ x5 → (R9 (x3 + 1))) ∧ (¬ t_trial_n ≤ x5 → ((x1 < x4 → (R9 (x3 + 1))) ∧ (¬ x1 < x4 → (pX7_turned t_trial_cells x3 x5 (fun r58 => (pX7_turned t_trial_cells x2 r58 (fun r61 => (pX7_turned t_trial_cells x2 x5 (fun r77 => (pX7_turned t_trial_cells x4 r77 (fun r80 => ((r61 = r80 → (R28 (x5 + 1))) ∧ (¬ r61 = r80 → (zb (0 : Int32) ∧ K (0 : Int32))))))))))))))))

def pX2_agreesUpTo_9 (t_trial_n : Int32) (t_trial_cells : Nat → Int32) (R2 : Int32 → Prop) (K : Int32 → Prop) (x1 : Int32) (x2 : Int32) (x3 : Int32) (R9 : Int32 → Prop) : Prop :=
  ((x1 < x3 → (R2 (x2 + 1))) ∧ (¬ x1 < x3 → (pX7_turned t_trial_cells x2 x3 (fun r20 => (lpW1 (pX2_agreesUpTo_28 t_trial_n t_trial_cells R2 R9 K x1 x2 x3 r20) (0 : Int32))))))

def pX2_agreesUpTo_2 (t_trial_n : Int32) (t_trial_cells : Nat → Int32) (K : Int32 → Prop) (x1 : Int32) (x2 : Int32) (R2 : Int32 → Prop) : Prop :=
  ((x1 < x2 → (zb (1 : Int32) ∧ K (1 : Int32))) ∧ (¬ x1 < x2 → (lpW1 (pX2_agreesUpTo_9 t_trial_n t_trial_cells R2 K x1 x2) (0 : Int32))))

def pX2_agreesUpTo (t_trial_n : Int32) (t_trial_cells : Nat → Int32) (x1 : Int32) (K : Int32 → Prop) : Prop :=
  (lpW1 (pX2_agreesUpTo_2 t_trial_n t_trial_cells K x1) (0 : Int32))

def pX2_fillRow_29 (t_trial_n : Int32) (rec : (Nat → Nat → Int32) → (Nat → Int32) → Int32 → (Nat → Int32) → Int32 → Int32 → (Nat → Int32) → (Nat → Int32) → (Nat → Int32) → (Nat → Int32) → (Nat → Int32) → Int32 → ((Nat → Nat → Int32) → (Nat → Int32) → (Nat → Int32) → Int32 → Int32 → (Nat → Int32) → (Nat → Int32) → (Nat → Int32) → (Nat → Int32) → (Nat → Int32) → Prop) → Prop) (K : (Nat → Nat → Int32) → (Nat → Int32) → (Nat → Int32) → Int32 → Int32 → (Nat → Int32) → (Nat → Int32) → (Nat → Int32) → (Nat → Int32) → (Nat → Int32) → Prop) (x1 : Int32) (x3 : Int32) (t_racks : Nat → Nat → Int32) (t_sizes : Nat → Int32) (t_trial_cells : Nat → Int32) (p2_named : Int32) (p2_best_n : Int32) (p2_best_cells : Nat → Int32) (p2_firstRow : Nat → Int32) (p2_names : Nat → Int32) (p2_things : Nat → Int32) (p2_twins : Nat → Int32) (R29 : Int32 → (Nat → Nat → Int32) → (Nat → Int32) → (Nat → Int32) → Int32 → Int32 → (Nat → Int32) → (Nat → Int32) → (Nat → Int32) → (Nat → Int32) → (Nat → Int32) → Prop) : Prop :=
  (vp_in t_trial_n 9 ∧ (((fct (Int32.toNatClampNeg t_trial_n)) ≤ x3 → (K t_racks t_sizes t_trial_cells p2_named p2_best_n p2_best_cells p2_firstRow p2_names p2_things p2_twins)) ∧ (¬ (fct (Int32.toNatClampNeg t_trial_n)) ≤ x3 → (pX5_numbered t_trial_n x3 (fun r57 => (pX7_putRow t_trial_n t_trial_cells x1 r57 (fun t_trial_cells_60 => (pX2_agreesUpTo t_trial_n t_trial_cells_60 x1 (fun r65 => ((r65 = 0 → (R29 (x3 + 1) t_racks t_sizes t_trial_cells_60 p2_named p2_best_n p2_best_cells p2_firstRow p2_names p2_things p2_twins)) ∧ (¬ r65 = 0 → (rec t_racks t_sizes t_trial_n t_trial_cells_60 p2_named p2_best_n p2_best_cells p2_firstRow p2_names p2_things p2_twins (x1 + (1 : Int32)) (fun t_racks_76 t_sizes_76 t_trial_cells_76 p2_named_76 p2_best_n_76 p2_best_cells_76 p2_firstRow_76 p2_names_76 p2_things_76 p2_twins_76 => (R29 (x3 + 1) t_racks_76 t_sizes_76 t_trial_cells_76 p2_named_76 p2_best_n_76 p2_best_cells_76 p2_firstRow_76 p2_names_76 p2_things_76 p2_twins_76))))))))))))))

def pX2_fillRow_b (rec : (Nat → Nat → Int32) → (Nat → Int32) → Int32 → (Nat → Int32) → Int32 → Int32 → (Nat → Int32) → (Nat → Int32) → (Nat → Int32) → (Nat → Int32) → (Nat → Int32) → Int32 → ((Nat → Nat → Int32) → (Nat → Int32) → (Nat → Int32) → Int32 → Int32 → (Nat → Int32) → (Nat → Int32) → (Nat → Int32) → (Nat → Int32) → (Nat → Int32) → Prop) → Prop) (t_racks : Nat → Nat → Int32) (t_sizes : Nat → Int32) (t_trial_n : Int32) (t_trial_cells : Nat → Int32) (p2_named : Int32) (p2_best_n : Int32) (p2_best_cells : Nat → Int32) (p2_firstRow : Nat → Int32) (p2_names : Nat → Int32) (p2_things : Nat → Int32) (p2_twins : Nat → Int32) (x1 : Int32) (K : (Nat → Nat → Int32) → (Nat → Int32) → (Nat → Int32) → Int32 → Int32 → (Nat → Int32) → (Nat → Int32) → (Nat → Int32) → (Nat → Int32) → (Nat → Int32) → Prop) : Prop :=
  ((x1 < t_trial_n → (lpW11 (pX2_fillRow_29 t_trial_n rec K x1) (0 : Int32) t_racks t_sizes t_trial_cells p2_named p2_best_n p2_best_cells p2_firstRow p2_names p2_things p2_twins)) ∧ (¬ x1 < t_trial_n → (pX4_lessen p2_named p2_best_n p2_best_cells p2_firstRow p2_names p2_things p2_twins t_trial_n t_trial_cells (fun r16 p2_named_16 p2_best_n_16 p2_best_cells_16 p2_firstRow_16 p2_names_16 p2_things_16 p2_twins_16 => ((¬ r16 = 0 → (K t_racks t_sizes t_trial_cells p2_named_16 p2_best_n_16 p2_best_cells_16 p2_firstRow_16 p2_names_16 p2_things_16 p2_twins_16)) ∧ (r16 = 0 → (pX2_keepTrial t_racks t_sizes t_trial_n t_trial_cells (fun t_racks_23 t_sizes_23 => (K t_racks_23 t_sizes_23 t_trial_cells p2_named_16 p2_best_n_16 p2_best_cells_16 p2_firstRow_16 p2_names_16 p2_things_16 p2_twins_16)))))))))

def pX2_fillRow : Nat → (Nat → Nat → Int32) → (Nat → Int32) → Int32 → (Nat → Int32) → Int32 → Int32 → (Nat → Int32) → (Nat → Int32) → (Nat → Int32) → (Nat → Int32) → (Nat → Int32) → Int32 → ((Nat → Nat → Int32) → (Nat → Int32) → (Nat → Int32) → Int32 → Int32 → (Nat → Int32) → (Nat → Int32) → (Nat → Int32) → (Nat → Int32) → (Nat → Int32) → Prop) → Prop
  | 0 => fun _ _ _ _ _ _ _ _ _ _ _ _ _ => False
  | d + 1 => pX2_fillRow_b (pX2_fillRow d)

def pX2_cell (x0 : Int32) (x1 : Int32) (x2 : Int32) (x3 : Int32) (K : Int32 → Prop) : Prop :=
  (K ((((Int32.toUInt32 x1) >>> ((Int32.toUInt32 ((2 : Int32) * ((x2 * x0) + x3))) &&& Int32.toUInt32 31)).toInt32) &&& (3 : Int32)))

def pX2_isQuandle_2 (K : Int32 → Prop) (x0 : Int32) (x1 : Int32) (x2 : Int32) (R2 : Int32 → Prop) : Prop :=
  ((x0 ≤ x2 → (zb (1 : Int32) ∧ K (1 : Int32))) ∧ (¬ x0 ≤ x2 → (pX2_cell x0 x1 x2 x2 (fun r11 => ((r11 = x2 → (R2 (x2 + 1))) ∧ (¬ r11 = x2 → (zb (0 : Int32) ∧ K (0 : Int32))))))))

def pX2_isQuandle (x0 : Int32) (x1 : Int32) (K : Int32 → Prop) : Prop :=
  (lpW1 (pX2_isQuandle_2 K x0 x1) (0 : Int32))

def pX2_sizeOf_60 (R29 : Int32 → Int32 → Prop) (K : Int32 → (Nat → Nat → Int32) → (Nat → Int32) → Int32 → (Nat → Int32) → Int32 → Int32 → (Nat → Int32) → (Nat → Int32) → (Nat → Int32) → (Nat → Int32) → (Nat → Int32) → Prop) (x1 : Int32) (x2 : Int32) (t_racks : Nat → Nat → Int32) (t_sizes : Nat → Int32) (t_trial_n : Int32) (t_trial_cells : Nat → Int32) (p3_named : Int32) (p3_best_n : Int32) (p3_best_cells : Nat → Int32) (p3_firstRow : Nat → Int32) (p3_names : Nat → Int32) (p3_things : Nat → Int32) (p3_twins : Nat → Int32) (x4 : Int32) (x5 : Int32) : Prop :=
  (R29 (x4 + 1) (x5 + 1))

def pX2_sizeOf_29 (K : Int32 → (Nat → Nat → Int32) → (Nat → Int32) → Int32 → (Nat → Int32) → Int32 → Int32 → (Nat → Int32) → (Nat → Int32) → (Nat → Int32) → (Nat → Int32) → (Nat → Int32) → Prop) (x1 : Int32) (x2 : Int32) (t_racks : Nat → Nat → Int32) (t_sizes : Nat → Int32) (t_trial_n : Int32) (t_trial_cells : Nat → Int32) (p3_named : Int32) (p3_best_n : Int32) (p3_best_cells : Nat → Int32) (p3_firstRow : Nat → Int32) (p3_names : Nat → Int32) (p3_things : Nat → Int32) (p3_twins : Nat → Int32) (x4 : Int32) (x5 : Int32) (R29 : Int32 → Int32 → Prop) : Prop :=
  (vp_in x1 5 ∧ (((t_sizes (Int32.toNatClampNeg x1)) ≤ x5 → (K x4 t_racks t_sizes t_trial_n t_trial_cells p3_named p3_best_n p3_best_cells p3_firstRow p3_names p3_things p3_twins)) ∧ (¬ (t_sizes (Int32.toNatClampNeg x1)) ≤ x5 → ((x2 = 0 → (pX2_sizeOf_60 R29 K x1 x2 t_racks t_sizes t_trial_n t_trial_cells p3_named p3_best_n p3_best_cells p3_firstRow p3_names p3_things p3_twins x4 x5)) ∧ (¬ x2 = 0 → (vp_in x1 5 ∧ (vp_in x5 19 ∧ (pX2_isQuandle x1 ((t_racks (Int32.toNatClampNeg x1)) (Int32.toNatClampNeg x5)) (fun r54 => ((r54 = 0 → (R29 x4 (x5 + 1))) ∧ (¬ r54 = 0 → (pX2_sizeOf_60 R29 K x1 x2 t_racks t_sizes t_trial_n t_trial_cells p3_named p3_best_n p3_best_cells p3_firstRow p3_names p3_things p3_twins x4 x5))))))))))))

def pX2_sizeOf_23 (K : Int32 → (Nat → Nat → Int32) → (Nat → Int32) → Int32 → (Nat → Int32) → Int32 → Int32 → (Nat → Int32) → (Nat → Int32) → (Nat → Int32) → (Nat → Int32) → (Nat → Int32) → Prop) (x1 : Int32) (x2 : Int32) (t_racks : Nat → Nat → Int32) (t_sizes : Nat → Int32) (t_trial_n : Int32) (t_trial_cells : Nat → Int32) (p3_named : Int32) (p3_best_n : Int32) (p3_best_cells : Nat → Int32) (p3_firstRow : Nat → Int32) (p3_names : Nat → Int32) (p3_things : Nat → Int32) (p3_twins : Nat → Int32) : Prop :=
  (lpW2 (pX2_sizeOf_29 K x1 x2 t_racks t_sizes t_trial_n t_trial_cells p3_named p3_best_n p3_best_cells p3_firstRow p3_names p3_things p3_twins) (0 : Int32) (0 : Int32))

def pX2_sizeOf (t_racks : Nat → Nat → Int32) (t_sizes : Nat → Int32) (t_trial_n : Int32) (t_trial_cells : Nat → Int32) (p3_named : Int32) (p3_best_n : Int32) (p3_best_cells : Nat → Int32) (p3_firstRow : Nat → Int32) (p3_names : Nat → Int32) (p3_things : Nat → Int32) (p3_twins : Nat → Int32) (x1 : Int32) (x2 : Int32) (K : Int32 → (Nat → Nat → Int32) → (Nat → Int32) → Int32 → (Nat → Int32) → Int32 → Int32 → (Nat → Int32) → (Nat → Int32) → (Nat → Int32) → (Nat → Int32) → (Nat → Int32) → Prop) : Prop :=
  (vp_in x1 5 ∧ ((¬ (t_sizes (Int32.toNatClampNeg x1)) = 0 → (pX2_sizeOf_23 K x1 x2 t_racks t_sizes t_trial_n t_trial_cells p3_named p3_best_n p3_best_cells p3_firstRow p3_names p3_things p3_twins)) ∧ ((t_sizes (Int32.toNatClampNeg x1)) = 0 → (pX2_fillRow 6 t_racks t_sizes x1 t_trial_cells p3_named p3_best_n p3_best_cells p3_firstRow p3_names p3_things p3_twins (0 : Int32) (fun t_racks_20 t_sizes_20 t_trial_cells_20 p3_named_20 p3_best_n_20 p3_best_cells_20 p3_firstRow_20 p3_names_20 p3_things_20 p3_twins_20 => (pX2_sizeOf_23 K x1 x2 t_racks_20 t_sizes_20 x1 t_trial_cells_20 p3_named_20 p3_best_n_20 p3_best_cells_20 p3_firstRow_20 p3_names_20 p3_things_20 p3_twins_20))))))

def pX2_unpackCells_15 (R7 : Int32 → (Nat → Int32) → Prop) (K : Int32 → (Nat → Int32) → Prop) (x0 : Int32) (x1 : Int32) (p2_n : Int32) (x3 : Int32) (x4 : Int32) (p2_cells : Nat → Int32) (R15 : Int32 → (Nat → Int32) → Prop) : Prop :=
  ((x0 ≤ x4 → (R7 (x3 + 1) p2_cells)) ∧ (¬ x0 ≤ x4 → (pX2_cell x0 x1 x3 x4 (fun r30 => (pX7_put p2_cells x3 x4 r30 (fun p2_cells_33 => (R15 (x4 + 1) p2_cells_33)))))))

def pX2_unpackCells_7 (K : Int32 → (Nat → Int32) → Prop) (x0 : Int32) (x1 : Int32) (p2_n : Int32) (x3 : Int32) (p2_cells : Nat → Int32) (R7 : Int32 → (Nat → Int32) → Prop) : Prop :=
  ((x0 ≤ x3 → (K p2_n p2_cells)) ∧ (¬ x0 ≤ x3 → (lpW2 (pX2_unpackCells_15 R7 K x0 x1 p2_n x3) (0 : Int32) p2_cells)))

def pX2_unpackCells (p2_n : Int32) (p2_cells : Nat → Int32) (x0 : Int32) (x1 : Int32) (K : Int32 → (Nat → Int32) → Prop) : Prop :=
  (lpW2 (pX2_unpackCells_7 K x0 x1 x0) (0 : Int32) p2_cells)

def pX2_unpack_57 (t_racks : Nat → Nat → Int32) (t_sizes : Nat → Int32) (R6 : Int32 → Int32 → Int32 → (Nat → Int32) → Prop) (K : Int32 → (Nat → Int32) → Prop) (x1 : Int32) (x2 : Int32) (x5 : Int32) (x6 : Int32) (p4_n : Int32) (p4_cells : Nat → Int32) : Prop :=
  (R6 (x5 + (-1)) (x6 + 1) p4_n p4_cells)

def pX2_unpack_37 (t_racks : Nat → Nat → Int32) (t_sizes : Nat → Int32) (R6 : Int32 → Int32 → Int32 → (Nat → Int32) → Prop) (K : Int32 → (Nat → Int32) → Prop) (x1 : Int32) (x2 : Int32) (x5 : Int32) (x6 : Int32) (p4_n : Int32) (p4_cells : Nat → Int32) : Prop :=
  ((¬ x5 = 0 → (pX2_unpack_57 t_racks t_sizes R6 K x1 x2 x5 x6 p4_n p4_cells)) ∧ (x5 = 0 → (vp_in x1 5 ∧ (vp_in x6 19 ∧ (pX2_unpackCells p4_n p4_cells x1 ((t_racks (Int32.toNatClampNeg x1)) (Int32.toNatClampNeg x6)) (fun p4_n_54 p4_cells_54 => (pX2_unpack_57 t_racks t_sizes R6 K x1 x2 x5 x6 p4_n_54 p4_cells_54)))))))

def pX2_unpack_6 (t_racks : Nat → Nat → Int32) (t_sizes : Nat → Int32) (K : Int32 → (Nat → Int32) → Prop) (x1 : Int32) (x2 : Int32) (x5 : Int32) (x6 : Int32) (p4_n : Int32) (p4_cells : Nat → Int32) (R6 : Int32 → Int32 → Int32 → (Nat → Int32) → Prop) : Prop :=
  (vp_in x1 5 ∧ (((t_sizes (Int32.toNatClampNeg x1)) ≤ x6 → (K p4_n p4_cells)) ∧ (¬ (t_sizes (Int32.toNatClampNeg x1)) ≤ x6 → ((x2 = 0 → (pX2_unpack_37 t_racks t_sizes R6 K x1 x2 x5 x6 p4_n p4_cells)) ∧ (¬ x2 = 0 → (vp_in x1 5 ∧ (vp_in x6 19 ∧ (pX2_isQuandle x1 ((t_racks (Int32.toNatClampNeg x1)) (Int32.toNatClampNeg x6)) (fun r31 => ((r31 = 0 → (R6 x5 (x6 + 1) p4_n p4_cells)) ∧ (¬ r31 = 0 → (pX2_unpack_37 t_racks t_sizes R6 K x1 x2 x5 x6 p4_n p4_cells))))))))))))

def pX2_unpack (t_racks : Nat → Nat → Int32) (t_sizes : Nat → Int32) (p4_n : Int32) (p4_cells : Nat → Int32) (x1 : Int32) (x2 : Int32) (x3 : Int32) (K : Int32 → (Nat → Int32) → Prop) : Prop :=
  (lpW4 (pX2_unpack_6 t_racks t_sizes K x1 x2) x3 (0 : Int32) p4_n p4_cells)

def pX10_isSize_15 (K : Int32 → Prop) : Prop :=
  (zb (0 : Int32) ∧ K (0 : Int32))

def pX10_isSize (x0 : Int32) (K : Int32 → Prop) : Prop :=
  ((x0 < (1 : Int32) → (pX10_isSize_15 K)) ∧ (¬ x0 < (1 : Int32) → (((8 : Int32) < x0 → (pX10_isSize_15 K)) ∧ (¬ (8 : Int32) < x0 → (zb (1 : Int32) ∧ K (1 : Int32))))))

def pX10_adoptDraft (t_current_n : Int32) (t_current_cells : Nat → Int32) (t_draft_n : Int32) (t_draft_cells : Nat → Int32) (t_twisting_values : Nat → Int32) (K : Int32 → Int32 → (Nat → Int32) → (Nat → Int32) → Prop) : Prop :=
  (pX7_copy t_current_n t_current_cells t_draft_n t_draft_cells (fun t_current_n_8 t_current_cells_8 => (pX9_flatten t_twisting_values (fun t_twisting_values_15 => (K t_current_n_8 t_current_n_8 t_current_cells_8 t_twisting_values_15)))))

def pX10_turn_39 (K : Int32 → Int32 → (Nat → Int32) → Int32 → (Nat → Int32) → (Nat → Int32) → Prop) (x1 : Int32) (x3 : Int32) (t_current_n : Int32) (t_current_cells : Nat → Int32) (t_draft_n : Int32) (t_twisting_values : Nat → Int32) (x4 : Int32) (t_draft_cells : Nat → Int32) (R39 : Int32 → (Nat → Int32) → Prop) : Prop :=
  ((x1 ≤ x4 → (pX10_adoptDraft t_current_n t_current_cells t_draft_n t_draft_cells t_twisting_values (fun r62 t_current_n_62 t_current_cells_62 t_twisting_values_62 => (zb (1 : Int32) ∧ K (1 : Int32) t_current_n_62 t_current_cells_62 t_draft_n t_draft_cells t_twisting_values_62)))) ∧ (¬ x1 ≤ x4 → (pX7_putRow t_draft_n t_draft_cells x4 x3 (fun t_draft_cells_52 => (R39 (x4 + 1) t_draft_cells_52)))))

def pX10_turn (t_current_n : Int32) (t_current_cells : Nat → Int32) (t_draft_n : Int32) (t_draft_cells : Nat → Int32) (t_twisting_values : Nat → Int32) (x1 : Int32) (x2 : Int32) (K : Int32 → Int32 → (Nat → Int32) → Int32 → (Nat → Int32) → (Nat → Int32) → Prop) : Prop :=
  (pX10_isSize x1 (fun r1 => ((r1 = 0 → (zb (0 : Int32) ∧ K (0 : Int32) t_current_n t_current_cells t_draft_n t_draft_cells t_twisting_values)) ∧ (¬ r1 = 0 → ((x2 < 0 → (zb (0 : Int32) ∧ K (0 : Int32) t_current_n t_current_cells t_draft_n t_draft_cells t_twisting_values)) ∧ (¬ x2 < 0 → (vp_in x1 9 ∧ ((x2 < (fct (Int32.toNatClampNeg x1)) → (pX5_numbered x1 x2 (fun r24 => (lpW2 (pX10_turn_39 K x1 r24 t_current_n t_current_cells x1 t_twisting_values) (0 : Int32) t_draft_cells)))) ∧ (¬ x2 < (fct (Int32.toNatClampNeg x1)) → (zb (0 : Int32) ∧ K (0 : Int32) t_current_n t_current_cells t_draft_n t_draft_cells t_twisting_values))))))))))

def pX10_table (t_current_n : Int32) (t_current_cells : Nat → Int32) (t_draft_n : Int32) (t_draft_cells : Nat → Int32) (t_twisting_values : Nat → Int32) (x1 : Int32) (K : Int32 → Int32 → (Nat → Int32) → Int32 → (Nat → Int32) → (Nat → Int32) → Prop) : Prop :=
  (pX10_turn t_current_n t_current_cells t_draft_n t_draft_cells t_twisting_values x1 (0 : Int32) (fun r3 t_current_n_3 t_current_cells_3 t_draft_n_3 t_draft_cells_3 t_twisting_values_3 => (zb r3 ∧ K r3 t_current_n_3 t_current_cells_3 t_draft_n_3 t_draft_cells_3 t_twisting_values_3)))

def pX10_set (t_current_n : Int32) (t_current_cells : Nat → Int32) (x1 : Int32) (x2 : Int32) (x3 : Int32) (K : Int32 → (Nat → Int32) → Prop) : Prop :=
  (pX7_has t_current_n x1 (fun r5 => ((r5 = 0 → (zb (0 : Int32) ∧ K (0 : Int32) t_current_cells)) ∧ (¬ r5 = 0 → (pX7_has t_current_n x2 (fun r16 => ((r16 = 0 → (zb (0 : Int32) ∧ K (0 : Int32) t_current_cells)) ∧ (¬ r16 = 0 → (pX7_has t_current_n x3 (fun r27 => ((¬ r27 = 0 → (pX7_put t_current_cells x1 x2 x3 (fun t_current_cells_42 => (zb (1 : Int32) ∧ K (1 : Int32) t_current_cells_42)))) ∧ (r27 = 0 → (zb (0 : Int32) ∧ K (0 : Int32) t_current_cells)))))))))))))

def pX10_commonPart_2 (K : Int32 → Prop) (x0 : Int32) (x1 : Int32) (x2 : Int32) (R2 : Int32 → Prop) : Prop :=
  ((x2 ≤ (1 : Int32) → (K (1 : Int32))) ∧ (¬ x2 ≤ (1 : Int32) → (¬ x2 = 0 ∧ ((¬ (x1 - x1 / x2 * x2) = 0 → (R2 (x2 + (-1)))) ∧ ((x1 - x1 / x2 * x2) = 0 → (¬ x2 = 0 ∧ ((¬ (x0 - x0 / x2 * x2) = 0 → (R2 (x2 + (-1)))) ∧ ((x0 - x0 / x2 * x2) = 0 → (K x2)))))))))

def pX10_commonPart (x0 : Int32) (x1 : Int32) (K : Int32 → Prop) : Prop :=
  (lpW1 (pX10_commonPart_2 K x0 x1) x1)

def pX10_line_45 (R37 : Int32 → (Nat → Int32) → Prop) (K : Int32 → Int32 → (Nat → Int32) → Int32 → (Nat → Int32) → (Nat → Int32) → Prop) (x1 : Int32) (x2 : Int32) (t_current_n : Int32) (t_current_cells : Nat → Int32) (t_draft_n : Int32) (t_twisting_values : Nat → Int32) (x3 : Int32) (x4 : Int32) (t_draft_cells : Nat → Int32) (R45 : Int32 → (Nat → Int32) → Prop) : Prop :=
  ((x1 ≤ x4 → (R37 (x3 + 1) t_draft_cells)) ∧ (¬ x1 ≤ x4 → (pJ9_floorMod_7cf53 ((((1 : Int32) - x2) * x3) + (x2 * x4)) x1 (fun r69 => (pX7_put t_draft_cells x3 x4 r69 (fun t_draft_cells_72 => (R45 (x4 + 1) t_draft_cells_72)))))))

def pX10_line_37 (K : Int32 → Int32 → (Nat → Int32) → Int32 → (Nat → Int32) → (Nat → Int32) → Prop) (x1 : Int32) (x2 : Int32) (t_current_n : Int32) (t_current_cells : Nat → Int32) (t_draft_n : Int32) (t_twisting_values : Nat → Int32) (x3 : Int32) (t_draft_cells : Nat → Int32) (R37 : Int32 → (Nat → Int32) → Prop) : Prop :=
  ((x1 ≤ x3 → (pX10_adoptDraft t_current_n t_current_cells t_draft_n t_draft_cells t_twisting_values (fun r88 t_current_n_88 t_current_cells_88 t_twisting_values_88 => (zb (1 : Int32) ∧ K (1 : Int32) t_current_n_88 t_current_cells_88 t_draft_n t_draft_cells t_twisting_values_88)))) ∧ (¬ x1 ≤ x3 → (lpW2 (pX10_line_45 R37 K x1 x2 t_current_n t_current_cells t_draft_n t_twisting_values x3) (0 : Int32) t_draft_cells)))

def pX10_line (t_current_n : Int32) (t_current_cells : Nat → Int32) (t_draft_n : Int32) (t_draft_cells : Nat → Int32) (t_twisting_values : Nat → Int32) (x1 : Int32) (x2 : Int32) (K : Int32 → Int32 → (Nat → Int32) → Int32 → (Nat → Int32) → (Nat → Int32) → Prop) : Prop :=
  (pX10_isSize x1 (fun r1 => ((r1 = 0 → (zb (0 : Int32) ∧ K (0 : Int32) t_current_n t_current_cells t_draft_n t_draft_cells t_twisting_values)) ∧ (¬ r1 = 0 → ((x2 < 0 → (zb (0 : Int32) ∧ K (0 : Int32) t_current_n t_current_cells t_draft_n t_draft_cells t_twisting_values)) ∧ (¬ x2 < 0 → ((x1 ≤ x2 → (zb (0 : Int32) ∧ K (0 : Int32) t_current_n t_current_cells t_draft_n t_draft_cells t_twisting_values)) ∧ (¬ x1 ≤ x2 → (pX10_commonPart x2 x1 (fun r18 => ((r18 ≤ (1 : Int32) → (lpW2 (pX10_line_37 K x1 x2 t_current_n t_current_cells x1 t_twisting_values) (0 : Int32) t_draft_cells)) ∧ (¬ r18 ≤ (1 : Int32) → (zb (0 : Int32) ∧ K (0 : Int32) t_current_n t_current_cells t_draft_n t_draft_cells t_twisting_values)))))))))))))

def pX10_cycleSum_43 (R4 : Int32 → Int32 → Prop) (K : Int32 → Prop) (x0 : Int32) (x1 : Int32) (x2 : Int32) (x3 : Int32) : Prop :=
  (R4 (x1 + x3) (x2 + 1))

def pX10_cycleSum_18 (R4 : Int32 → Int32 → Prop) (K : Int32 → Prop) (x0 : Int32) (x1 : Int32) (x2 : Int32) (x3 : Int32) (x4 : Int32) (R18 : Int32 → Int32 → Prop) : Prop :=
  ((x4 = x2 → (pX10_cycleSum_43 R4 K x0 x1 x2 x3)) ∧ (¬ x4 = x2 → (((4 : Int32) ≤ x3 → (pX10_cycleSum_43 R4 K x0 x1 x2 x3)) ∧ (¬ (4 : Int32) ≤ x3 → (pX5_image x0 x4 (fun r32 => (R18 (x3 + 1) r32)))))))

def pX10_cycleSum_4 (K : Int32 → Prop) (x0 : Int32) (x1 : Int32) (x2 : Int32) (R4 : Int32 → Int32 → Prop) : Prop :=
  (((4 : Int32) ≤ x2 → (K x1)) ∧ (¬ (4 : Int32) ≤ x2 → (pX5_image x0 x2 (fun r13 => (lpW2 (pX10_cycleSum_18 R4 K x0 x1 x2) (1 : Int32) r13)))))

def pX10_cycleSum (x0 : Int32) (K : Int32 → Prop) : Prop :=
  (lpW2 (pX10_cycleSum_4 K x0) (0 : Int32) (0 : Int32))

def pX10_gatherPeers_14 (K : Int32 → (Nat → Int32) → Prop) (x2 : Int32) (x3 : Int32) (x4 : Int32) (t_peers : Nat → Int32) (R14 : Int32 → Int32 → (Nat → Int32) → Prop) : Prop :=
  (vp_in (4 : Int32) 9 ∧ (((fct (Int32.toNatClampNeg (4 : Int32))) ≤ x4 → (K x3 t_peers)) ∧ (¬ (fct (Int32.toNatClampNeg (4 : Int32))) ≤ x4 → (pX5_numbered (4 : Int32) x4 (fun r27 => (pX10_cycleSum r27 (fun r34 => ((¬ r34 = x2 → (R14 x3 (x4 + 1) t_peers)) ∧ (r34 = x2 → (((Int32.ofNat 8) ≤ x3 → (R14 x3 (x4 + 1) t_peers)) ∧ (¬ (Int32.ofNat 8) ≤ x3 → (vp_in x3 8 ∧ (R14 (x3 + 1) (x4 + 1) (upd t_peers (Int32.toNatClampNeg x3) r27))))))))))))))

def pX10_gatherPeers (t_peers : Nat → Int32) (x1 : Int32) (K : Int32 → (Nat → Int32) → Prop) : Prop :=
  (pX5_numbered (4 : Int32) x1 (fun r2 => (pX10_cycleSum r2 (fun r5 => (lpW3 (pX10_gatherPeers_14 K r5) (0 : Int32) (0 : Int32) t_peers)))))

def pX10_peerOf_5 (t_peers : Nat → Int32) (K : Int32 → Prop) (x1 : Int32) (x2 : Int32) (x3 : Int32) (x4 : Int32) (R5 : Int32 → Int32 → Prop) : Prop :=
  ((x2 ≤ x4 → (K x3)) ∧ (¬ x2 ≤ x4 → (vp_in x4 8 ∧ ((¬ (t_peers (Int32.toNatClampNeg x4)) = x1 → (R5 x3 (x4 + 1))) ∧ ((t_peers (Int32.toNatClampNeg x4)) = x1 → (R5 x4 (x4 + 1)))))))

def pX10_peerOf (t_peers : Nat → Int32) (x1 : Int32) (x2 : Int32) (K : Int32 → Prop) : Prop :=
  (lpW2 (pX10_peerOf_5 t_peers K x1 x2) (0 : Int32) (0 : Int32))

def pX10_group_54 (R29 : Int32 → (Nat → Int32) → Prop) (K : Int32 → Int32 → (Nat → Int32) → Int32 → (Nat → Int32) → (Nat → Int32) → (Nat → Int32) → Prop) (t_current_n : Int32) (t_current_cells : Nat → Int32) (t_draft_n : Int32) (t_peers : Nat → Int32) (t_twisting_values : Nat → Int32) (x2 : Int32) (x3 : Int32) (x4 : Int32) (t_draft_cells : Nat → Int32) (R54 : Int32 → (Nat → Int32) → Prop) : Prop :=
  ((t_draft_n ≤ x4 → (R29 (x2 + 1) t_draft_cells)) ∧ (¬ t_draft_n ≤ x4 → (vp_in x4 8 ∧ (pX5_after (t_peers (Int32.toNatClampNeg x4)) x3 (4 : Int32) (fun r75 => (vp_in x2 8 ∧ (pX5_after (t_peers (Int32.toNatClampNeg x2)) r75 (4 : Int32) (fun r97 => (pX10_peerOf t_peers r97 t_draft_n (fun r107 => (pX7_put t_draft_cells x2 x4 r107 (fun t_draft_cells_110 => (R54 (x4 + 1) t_draft_cells_110)))))))))))))

def pX10_group_29 (K : Int32 → Int32 → (Nat → Int32) → Int32 → (Nat → Int32) → (Nat → Int32) → (Nat → Int32) → Prop) (t_current_n : Int32) (t_current_cells : Nat → Int32) (t_draft_n : Int32) (t_peers : Nat → Int32) (t_twisting_values : Nat → Int32) (x2 : Int32) (t_draft_cells : Nat → Int32) (R29 : Int32 → (Nat → Int32) → Prop) : Prop :=
  ((t_draft_n ≤ x2 → (pX10_adoptDraft t_current_n t_current_cells t_draft_n t_draft_cells t_twisting_values (fun r126 t_current_n_126 t_current_cells_126 t_twisting_values_126 => (K r126 t_current_n_126 t_current_cells_126 t_draft_n t_draft_cells t_peers t_twisting_values_126)))) ∧ (¬ t_draft_n ≤ x2 → (vp_in x2 8 ∧ (pX5_contrary (t_peers (Int32.toNatClampNeg x2)) (4 : Int32) (fun r47 => (lpW2 (pX10_group_54 R29 K t_current_n t_current_cells t_draft_n t_peers t_twisting_values x2 r47) (0 : Int32) t_draft_cells))))))

def pX10_group (t_current_n : Int32) (t_current_cells : Nat → Int32) (t_draft_n : Int32) (t_draft_cells : Nat → Int32) (t_peers : Nat → Int32) (t_twisting_values : Nat → Int32) (x1 : Int32) (K : Int32 → Int32 → (Nat → Int32) → Int32 → (Nat → Int32) → (Nat → Int32) → (Nat → Int32) → Prop) : Prop :=
  ((x1 < 0 → (K (-1 : Int32) t_current_n t_current_cells t_draft_n t_draft_cells t_peers t_twisting_values)) ∧ (¬ x1 < 0 → (vp_in (4 : Int32) 9 ∧ ((x1 < (fct (Int32.toNatClampNeg (4 : Int32))) → (pX10_gatherPeers t_peers x1 (fun r21 t_peers_21 => (lpW2 (pX10_group_29 K t_current_n t_current_cells r21 t_peers_21 t_twisting_values) (0 : Int32) t_draft_cells)))) ∧ (¬ x1 < (fct (Int32.toNatClampNeg (4 : Int32))) → (K (-1 : Int32) t_current_n t_current_cells t_draft_n t_draft_cells t_peers t_twisting_values))))))

def pX10_isKeep_13 (K : Int32 → Prop) : Prop :=
  (zb (0 : Int32) ∧ K (0 : Int32))

def pX10_isKeep (x0 : Int32) (K : Int32 → Prop) : Prop :=
  ((x0 < 0 → (pX10_isKeep_13 K)) ∧ (¬ x0 < 0 → (((4 : Int32) ≤ x0 → (pX10_isKeep_13 K)) ∧ (¬ (4 : Int32) ≤ x0 → (zb (1 : Int32) ∧ K (1 : Int32))))))

def pX10_keep (t_current_n : Int32) (t_current_cells : Nat → Int32) (t_keeps_n : Nat → Int32) (t_keeps_cells : Nat → Nat → Int32) (x1 : Int32) (K : Int32 → (Nat → Int32) → (Nat → Nat → Int32) → Prop) : Prop :=
  (pX10_isKeep x1 (fun r1 => ((¬ r1 = 0 → (vp_in x1 4 ∧ (pX7_copy (t_keeps_n (Int32.toNatClampNeg x1)) (t_keeps_cells (Int32.toNatClampNeg x1)) t_current_n t_current_cells (fun t_keeps_n_19 t_keeps_cells_19 => (zb (1 : Int32) ∧ K (1 : Int32) (va_up t_keeps_n (Int32.toNatClampNeg x1) t_keeps_n_19) (va_up t_keeps_cells (Int32.toNatClampNeg x1) t_keeps_cells_19)))))) ∧ (r1 = 0 → (zb (0 : Int32) ∧ K (0 : Int32) t_keeps_n t_keeps_cells)))))

def pX10_isFilled_23 (t_keeps_n : Nat → Int32) (K : Int32 → Prop) : Prop :=
  (zb (0 : Int32) ∧ K (0 : Int32))

def pX10_isFilled (t_keeps_n : Nat → Int32) (x1 : Int32) (K : Int32 → Prop) : Prop :=
  (pX10_isKeep x1 (fun r1 => ((r1 = 0 → (pX10_isFilled_23 t_keeps_n K)) ∧ (¬ r1 = 0 → (vp_in x1 4 ∧ (((t_keeps_n (Int32.toNatClampNeg x1)) ≤ 0 → (pX10_isFilled_23 t_keeps_n K)) ∧ (¬ (t_keeps_n (Int32.toNatClampNeg x1)) ≤ 0 → (zb (1 : Int32) ∧ K (1 : Int32)))))))))

def pX10_fetch (t_current_n : Int32) (t_current_cells : Nat → Int32) (t_draft_n : Int32) (t_draft_cells : Nat → Int32) (t_keeps_n : Nat → Int32) (t_keeps_cells : Nat → Nat → Int32) (t_twisting_values : Nat → Int32) (x1 : Int32) (K : Int32 → Int32 → (Nat → Int32) → Int32 → (Nat → Int32) → (Nat → Int32) → Prop) : Prop :=
  (pX10_isFilled t_keeps_n x1 (fun r2 => ((¬ r2 = 0 → (vp_in x1 4 ∧ (pX7_copy t_draft_n t_draft_cells (t_keeps_n (Int32.toNatClampNeg x1)) (t_keeps_cells (Int32.toNatClampNeg x1)) (fun t_draft_n_20 t_draft_cells_20 => (pX10_adoptDraft t_current_n t_current_cells t_draft_n_20 t_draft_cells_20 t_twisting_values (fun r24 t_current_n_24 t_current_cells_24 t_twisting_values_24 => (K r24 t_current_n_24 t_current_cells_24 t_draft_n_20 t_draft_cells_20 t_twisting_values_24))))))) ∧ (r2 = 0 → (K (-1 : Int32) t_current_n t_current_cells t_draft_n t_draft_cells t_twisting_values)))))

def pX10_count (t_toldCount : Int32) (t_braid_width : Int32) (t_braid_length : Int32) (t_current_n : Int32) (t_twisting_modulus : Int32) (x1 : Int32) (K : Int32 → Prop) : Prop :=
  ((x1 = 0 → (K t_current_n)) ∧ (x1 = 1 → (K t_twisting_modulus)) ∧ (x1 = 2 → (K t_braid_width)) ∧ (x1 = 3 → (K t_braid_length)) ∧ (x1 = 4 → (K t_toldCount)) ∧ (¬ x1 = 0 → ¬ x1 = 1 → ¬ x1 = 2 → ¬ x1 = 3 → ¬ x1 = 4 → (K (-1 : Int32))))

def pX10_tell (t_toldCount : Int32) (t_told : Nat → Int32) (x1 : Int32) (K : Int32 → (Nat → Int32) → Prop) : Prop :=
  (((Int32.ofNat 8) ≤ t_toldCount → (K t_toldCount t_told)) ∧ (¬ (Int32.ofNat 8) ≤ t_toldCount → (vp_in t_toldCount 8 ∧ (K (t_toldCount + (1 : Int32)) (upd t_told (Int32.toNatClampNeg t_toldCount) x1)))))

def pX10_tellTriple (t_toldCount : Int32) (t_told : Nat → Int32) (x1 : Int32) (K : Int32 → (Nat → Int32) → Prop) : Prop :=
  (¬ (64 : Int32) = 0 ∧ (pX10_tell (0 : Int32) t_told (x1 / (64 : Int32)) (fun t_toldCount_10 t_told_10 => (¬ (8 : Int32) = 0 ∧ (¬ (8 : Int32) = 0 ∧ (pX10_tell t_toldCount_10 t_told_10 ((x1 / (8 : Int32)) - (x1 / (8 : Int32)) / (8 : Int32) * (8 : Int32)) (fun t_toldCount_21 t_told_21 => (¬ (8 : Int32) = 0 ∧ (pX10_tell t_toldCount_21 t_told_21 (x1 - x1 / (8 : Int32) * (8 : Int32)) (fun t_toldCount_29 t_told_29 => (K t_toldCount_29 t_told_29)))))))))))

def pX10_wrong (t_toldCount : Int32) (t_current_n : Int32) (t_current_cells : Nat → Int32) (t_told : Nat → Int32) (K : Int32 → Int32 → (Nat → Int32) → Prop) : Prop :=
  (pX7_firstTornRow t_current_n t_current_cells (fun r4 => ((r4 = (-1 : Int32) → (pX7_firstBrokenTriple t_current_n t_current_cells (fun r29 => ((r29 = (-1 : Int32) → (K (0 : Int32) t_toldCount t_told)) ∧ (¬ r29 = (-1 : Int32) → (pX10_tellTriple t_toldCount t_told r29 (fun t_toldCount_40 t_told_40 => (K (2 : Int32) t_toldCount_40 t_told_40)))))))) ∧ (¬ r4 = (-1 : Int32) → (pX10_tell (0 : Int32) t_told r4 (fun t_toldCount_20 t_told_20 => (K (1 : Int32) t_toldCount_20 t_told_20)))))))

def pX10_splitIntoOrbits_29 (t_current_n : Int32) (t_current_cells : Nat → Int32) (R16 : Int32 → (Nat → Int32) → Prop) (K : Int32 → Int32 → (Nat → Int32) → (Nat → Int32) → Prop) (t_classes_n : Int32) (t_classes_numbers : Nat → Int32) (x1 : Int32) (x2 : Int32) (t_classes_leader : Nat → Int32) (R29 : Int32 → (Nat → Int32) → Prop) : Prop :=
  ((t_current_n ≤ x2 → (R16 (x1 + 1) t_classes_leader)) ∧ (¬ t_current_n ≤ x2 → (pX7_turned t_current_cells x1 x2 (fun r51 => (pX1_join t_classes_n t_classes_leader x2 r51 (fun r54 t_classes_leader_54 => (R29 (x2 + 1) t_classes_leader_54)))))))

def pX10_splitIntoOrbits_16 (t_current_n : Int32) (t_current_cells : Nat → Int32) (K : Int32 → Int32 → (Nat → Int32) → (Nat → Int32) → Prop) (t_classes_n : Int32) (t_classes_numbers : Nat → Int32) (x1 : Int32) (t_classes_leader : Nat → Int32) (R16 : Int32 → (Nat → Int32) → Prop) : Prop :=
  ((t_current_n ≤ x1 → (pX1_number t_classes_n t_classes_leader t_classes_numbers (fun r74 t_classes_numbers_74 => (K r74 t_classes_n t_classes_leader t_classes_numbers_74)))) ∧ (¬ t_current_n ≤ x1 → (lpW2 (pX10_splitIntoOrbits_29 t_current_n t_current_cells R16 K t_classes_n t_classes_numbers x1) (0 : Int32) t_classes_leader)))

def pX10_splitIntoOrbits (t_classes_n : Int32) (t_classes_leader : Nat → Int32) (t_classes_numbers : Nat → Int32) (t_current_n : Int32) (t_current_cells : Nat → Int32) (K : Int32 → Int32 → (Nat → Int32) → (Nat → Int32) → Prop) : Prop :=
  (pX1_split t_classes_n t_classes_leader t_current_n (fun t_classes_n_11 t_classes_leader_11 => (lpW2 (pX10_splitIntoOrbits_16 t_current_n t_current_cells K t_classes_n_11 t_classes_numbers) (0 : Int32) t_classes_leader_11)))

def pX10_holds (t_classes_n : Int32) (t_classes_leader : Nat → Int32) (t_classes_numbers : Nat → Int32) (t_current_n : Int32) (t_current_cells : Nat → Int32) (x1 : Int32) (K : Int32 → Int32 → (Nat → Int32) → (Nat → Int32) → Prop) : Prop :=
  ((x1 = 0 → (pX7_isIdempotent t_current_n t_current_cells (fun r36 => (zb r36 ∧ K r36 t_classes_n t_classes_leader t_classes_numbers)))) ∧ (x1 = 1 → (pX7_isInvolutory t_current_n t_current_cells (fun r44 => (zb r44 ∧ K r44 t_classes_n t_classes_leader t_classes_numbers)))) ∧ (x1 = 2 → (pX10_splitIntoOrbits t_classes_n t_classes_leader t_classes_numbers t_current_n t_current_cells (fun r49 t_classes_n_49 t_classes_leader_49 t_classes_numbers_49 => ((¬ r49 = (1 : Int32) → (zb (0 : Int32) ∧ K (0 : Int32) t_classes_n_49 t_classes_leader_49 t_classes_numbers_49)) ∧ (r49 = (1 : Int32) → (zb (1 : Int32) ∧ K (1 : Int32) t_classes_n_49 t_classes_leader_49 t_classes_numbers_49)))))) ∧ (x1 = 3 → (pX7_rowsDiffer t_current_n t_current_cells (fun r66 => (zb r66 ∧ K r66 t_classes_n t_classes_leader t_classes_numbers)))) ∧ (¬ x1 = 0 → ¬ x1 = 1 → ¬ x1 = 2 → ¬ x1 = 3 → (pX7_columnsHaveAll t_current_n t_current_cells (fun r74 => (zb r74 ∧ K r74 t_classes_n t_classes_leader t_classes_numbers)))))

def pX10_is (t_classes_n : Int32) (t_classes_leader : Nat → Int32) (t_classes_numbers : Nat → Int32) (t_current_n : Int32) (t_current_cells : Nat → Int32) (x1 : Int32) (K : Int32 → Int32 → (Nat → Int32) → (Nat → Int32) → Prop) : Prop :=
  ((x1 < 0 → (K (-1 : Int32) t_classes_n t_classes_leader t_classes_numbers)) ∧ (¬ x1 < 0 → (((4 : Int32) < x1 → (K (-1 : Int32) t_classes_n t_classes_leader t_classes_numbers)) ∧ (¬ (4 : Int32) < x1 → (pX7_isRack t_current_n t_current_cells (fun r13 => ((¬ r13 = 0 → (pX10_holds t_classes_n t_classes_leader t_classes_numbers t_current_n t_current_cells x1 (fun r23 t_classes_n_23 t_classes_leader_23 t_classes_numbers_23 => ((r23 = 0 → (K (0 : Int32) t_classes_n_23 t_classes_leader_23 t_classes_numbers_23)) ∧ (¬ r23 = 0 → (K (1 : Int32) t_classes_n_23 t_classes_leader_23 t_classes_numbers_23)))))) ∧ (r13 = 0 → (K (-1 : Int32) t_classes_n t_classes_leader t_classes_numbers)))))))))

def pX10_orbits_24 (t_current_n : Int32) (t_current_cells : Nat → Int32) (K : Int32 → Int32 → Int32 → (Nat → Int32) → (Nat → Int32) → (Nat → Int32) → Prop) (x1 : Int32) (t_classes_n : Int32) (t_classes_leader : Nat → Int32) (t_classes_numbers : Nat → Int32) (x2 : Int32) (t_toldCount : Int32) (t_told : Nat → Int32) (R24 : Int32 → Int32 → (Nat → Int32) → Prop) : Prop :=
  ((t_current_n ≤ x2 → (K x1 t_toldCount t_classes_n t_classes_leader t_classes_numbers t_told)) ∧ (¬ t_current_n ≤ x2 → (pX1_numberOf t_classes_numbers x2 (fun r41 => (pX10_tell t_toldCount t_told r41 (fun t_toldCount_44 t_told_44 => (R24 (x2 + 1) t_toldCount_44 t_told_44)))))))

def pX10_orbits (t_toldCount : Int32) (t_classes_n : Int32) (t_classes_leader : Nat → Int32) (t_classes_numbers : Nat → Int32) (t_current_n : Int32) (t_current_cells : Nat → Int32) (t_told : Nat → Int32) (K : Int32 → Int32 → Int32 → (Nat → Int32) → (Nat → Int32) → (Nat → Int32) → Prop) : Prop :=
  (pX7_isRack t_current_n t_current_cells (fun r4 => ((¬ r4 = 0 → (pX10_splitIntoOrbits t_classes_n t_classes_leader t_classes_numbers t_current_n t_current_cells (fun r13 t_classes_n_13 t_classes_leader_13 t_classes_numbers_13 => (lpW3 (pX10_orbits_24 t_current_n t_current_cells K r13 t_classes_n_13 t_classes_leader_13 t_classes_numbers_13) (0 : Int32) (0 : Int32) t_told)))) ∧ (r4 = 0 → (K (-1 : Int32) t_toldCount t_classes_n t_classes_leader t_classes_numbers t_told)))))

def pX10_moves (t_current_n : Int32) (t_current_cells : Nat → Int32) (t_turnGroup_carriers : Nat → Int32) (t_turnGroup_reached : Nat → Int32) (t_turnGroup_sieve : Nat → Int32) (K : Int32 → (Nat → Int32) → (Nat → Int32) → (Nat → Int32) → Prop) : Prop :=
  (pX7_isRack t_current_n t_current_cells (fun r4 => ((r4 = 0 → (K (-1 : Int32) t_turnGroup_carriers t_turnGroup_reached t_turnGroup_sieve)) ∧ (¬ r4 = 0 → (pX8_orderOf t_turnGroup_carriers t_turnGroup_reached t_turnGroup_sieve t_current_n t_current_cells (fun r18 t_turnGroup_carriers_18 t_turnGroup_reached_18 t_turnGroup_sieve_18 => (K r18 t_turnGroup_carriers_18 t_turnGroup_reached_18 t_turnGroup_sieve_18)))))))

def pX10_keepers (t_current_n : Int32) (t_current_cells : Nat → Int32) (t_matcher_used : Int32) (t_matcher_images : Nat → Int32) (t_matcher_signsHere : Nat → Int32) (t_matcher_signsThere : Nat → Int32) (K : Int32 → Int32 → (Nat → Int32) → (Nat → Int32) → (Nat → Int32) → Prop) : Prop :=
  (pX3_countKeepers t_matcher_used t_matcher_images t_matcher_signsHere t_matcher_signsThere t_current_n t_current_cells (fun r8 t_matcher_used_8 t_matcher_images_8 t_matcher_signsHere_8 t_matcher_signsThere_8 => (K r8 t_matcher_used_8 t_matcher_images_8 t_matcher_signsHere_8 t_matcher_signsThere_8)))

def pX10_least (t_current_n : Int32) (t_current_cells : Nat → Int32) (t_draft_n : Int32) (t_draft_cells : Nat → Int32) (t_namer_named : Int32) (t_namer_best_n : Int32) (t_namer_best_cells : Nat → Int32) (t_namer_firstRow : Nat → Int32) (t_namer_names : Nat → Int32) (t_namer_things : Nat → Int32) (t_namer_twins : Nat → Int32) (t_twisting_values : Nat → Int32) (K : Int32 → Int32 → (Nat → Int32) → Int32 → (Nat → Int32) → Int32 → Int32 → (Nat → Int32) → (Nat → Int32) → (Nat → Int32) → (Nat → Int32) → (Nat → Int32) → (Nat → Int32) → Prop) : Prop :=
  (pX4_lessen t_namer_named t_namer_best_n t_namer_best_cells t_namer_firstRow t_namer_names t_namer_things t_namer_twins t_current_n t_current_cells (fun r8 t_namer_named_8 t_namer_best_n_8 t_namer_best_cells_8 t_namer_firstRow_8 t_namer_names_8 t_namer_things_8 t_namer_twins_8 => (pX7_copy t_draft_n t_draft_cells t_namer_best_n_8 t_namer_best_cells_8 (fun t_draft_n_23 t_draft_cells_23 => (pX10_adoptDraft t_current_n t_current_cells t_draft_n_23 t_draft_cells_23 t_twisting_values (fun r27 t_current_n_27 t_current_cells_27 t_twisting_values_27 => (zb r8 ∧ K r8 t_current_n_27 t_current_cells_27 t_draft_n_23 t_draft_cells_23 t_namer_named_8 t_namer_best_n_8 t_namer_best_cells_8 t_namer_firstRow_8 t_namer_names_8 t_namer_things_8 t_namer_twins_8 t_twisting_values_27)))))))

def pX10_like (t_current_n : Int32) (t_current_cells : Nat → Int32) (t_keeps_n : Nat → Int32) (t_keeps_cells : Nat → Nat → Int32) (t_matcher_used : Int32) (t_matcher_images : Nat → Int32) (t_matcher_signsHere : Nat → Int32) (t_matcher_signsThere : Nat → Int32) (x1 : Int32) (K : Int32 → Int32 → (Nat → Int32) → (Nat → Int32) → (Nat → Int32) → Prop) : Prop :=
  (pX10_isFilled t_keeps_n x1 (fun r2 => ((¬ r2 = 0 → (vp_in x1 4 ∧ (pX3_matches t_matcher_used t_matcher_images t_matcher_signsHere t_matcher_signsThere t_current_n t_current_cells (t_keeps_n (Int32.toNatClampNeg x1)) (t_keeps_cells (Int32.toNatClampNeg x1)) (fun r24 t_matcher_used_24 t_matcher_images_24 t_matcher_signsHere_24 t_matcher_signsThere_24 => ((r24 = 0 → (K (0 : Int32) t_matcher_used_24 t_matcher_images_24 t_matcher_signsHere_24 t_matcher_signsThere_24)) ∧ (¬ r24 = 0 → (K (1 : Int32) t_matcher_used_24 t_matcher_images_24 t_matcher_signsHere_24 t_matcher_signsThere_24))))))) ∧ (r2 = 0 → (K (-1 : Int32) t_matcher_used t_matcher_images t_matcher_signsHere t_matcher_signsThere)))))

def pX10_dual (t_current_n : Int32) (t_current_cells : Nat → Int32) (t_draft_n : Int32) (t_draft_cells : Nat → Int32) (t_twisting_values : Nat → Int32) (K : Int32 → Int32 → (Nat → Int32) → Int32 → (Nat → Int32) → (Nat → Int32) → Prop) : Prop :=
  (pX7_firstTornRow t_current_n t_current_cells (fun r4 => ((r4 = (-1 : Int32) → (pX7_makeContrary t_draft_n t_draft_cells t_current_n t_current_cells (fun t_draft_n_21 t_draft_cells_21 => (pX10_adoptDraft t_current_n t_current_cells t_draft_n_21 t_draft_cells_21 t_twisting_values (fun r25 t_current_n_25 t_current_cells_25 t_twisting_values_25 => (zb (1 : Int32) ∧ K (1 : Int32) t_current_n_25 t_current_cells_25 t_draft_n_21 t_draft_cells_21 t_twisting_values_25)))))) ∧ (¬ r4 = (-1 : Int32) → (zb (0 : Int32) ∧ K (0 : Int32) t_current_n t_current_cells t_draft_n t_draft_cells t_twisting_values)))))

def pX10_times_78 (t_keeps_n : Nat → Int32) (t_keeps_cells : Nat → Nat → Int32) (R63 : Int32 → (Nat → Int32) → Prop) (K : Int32 → Int32 → (Nat → Int32) → Int32 → (Nat → Int32) → (Nat → Int32) → Prop) (e9 : Nat) (x3 : Int32) (t_current_n : Int32) (t_current_cells : Nat → Int32) (t_draft_n : Int32) (t_twisting_values : Nat → Int32) (x4 : Int32) (x5 : Int32) (t_draft_cells : Nat → Int32) (R78 : Int32 → (Nat → Int32) → Prop) : Prop :=
  ((t_draft_n ≤ x5 → (R63 (x4 + 1) t_draft_cells)) ∧ (¬ t_draft_n ≤ x5 → (¬ x3 = 0 ∧ (¬ x3 = 0 ∧ (pX7_turned t_current_cells (x4 / x3) (x5 / x3) (fun r111 => (¬ x3 = 0 ∧ (¬ x3 = 0 ∧ (pX7_turned (t_keeps_cells e9) (x4 - x4 / x3 * x3) (x5 - x5 / x3 * x3) (fun r124 => (pX7_put t_draft_cells x4 x5 ((x3 * r111) + r124) (fun t_draft_cells_128 => (R78 (x5 + 1) t_draft_cells_128)))))))))))))

def pX10_times_63 (t_keeps_n : Nat → Int32) (t_keeps_cells : Nat → Nat → Int32) (K : Int32 → Int32 → (Nat → Int32) → Int32 → (Nat → Int32) → (Nat → Int32) → Prop) (e9 : Nat) (x3 : Int32) (t_current_n : Int32) (t_current_cells : Nat → Int32) (t_draft_n : Int32) (t_twisting_values : Nat → Int32) (x4 : Int32) (t_draft_cells : Nat → Int32) (R63 : Int32 → (Nat → Int32) → Prop) : Prop :=
  ((t_draft_n ≤ x4 → (pX10_adoptDraft t_current_n t_current_cells t_draft_n t_draft_cells t_twisting_values (fun r144 t_current_n_144 t_current_cells_144 t_twisting_values_144 => (K r144 t_current_n_144 t_current_cells_144 t_draft_n t_draft_cells t_twisting_values_144)))) ∧ (¬ t_draft_n ≤ x4 → (lpW2 (pX10_times_78 t_keeps_n t_keeps_cells R63 K e9 x3 t_current_n t_current_cells t_draft_n t_twisting_values x4) (0 : Int32) t_draft_cells)))

def pX10_times (t_current_n : Int32) (t_current_cells : Nat → Int32) (t_draft_n : Int32) (t_draft_cells : Nat → Int32) (t_keeps_n : Nat → Int32) (t_keeps_cells : Nat → Nat → Int32) (t_twisting_values : Nat → Int32) (x1 : Int32) (K : Int32 → Int32 → (Nat → Int32) → Int32 → (Nat → Int32) → (Nat → Int32) → Prop) : Prop :=
  (pX10_isFilled t_keeps_n x1 (fun r2 => ((r2 = 0 → (K (-1 : Int32) t_current_n t_current_cells t_draft_n t_draft_cells t_twisting_values)) ∧ (¬ r2 = 0 → (vp_in x1 4 ∧ (((t_current_n * (t_keeps_n (Int32.toNatClampNeg x1))) ≤ (8 : Int32) → (vp_in x1 4 ∧ (lpW2 (pX10_times_63 t_keeps_n t_keeps_cells K (Int32.toNatClampNeg x1) (t_keeps_n (Int32.toNatClampNeg x1)) t_current_n t_current_cells (t_current_n * (t_keeps_n (Int32.toNatClampNeg x1))) t_twisting_values) (0 : Int32) t_draft_cells))) ∧ (¬ (t_current_n * (t_keeps_n (Int32.toNatClampNeg x1))) ≤ (8 : Int32) → (K (-1 : Int32) t_current_n t_current_cells t_draft_n t_draft_cells t_twisting_values))))))))

def pX10_joinTurnsOf_89 (t_classes_n : Int32) (t_current_n : Int32) (t_current_cells : Nat → Int32) (R5 : Int32 → Int32 → (Nat → Int32) → Prop) (K : Int32 → (Nat → Int32) → Prop) (x1 : Int32) (x2 : Int32) (x4 : Int32) (t_classes_leader : Nat → Int32) : Prop :=
  (R5 (1 : Int32) (x4 + 1) t_classes_leader)

def pX10_joinTurnsOf_5 (t_classes_n : Int32) (t_current_n : Int32) (t_current_cells : Nat → Int32) (K : Int32 → (Nat → Int32) → Prop) (x1 : Int32) (x2 : Int32) (x3 : Int32) (x4 : Int32) (t_classes_leader : Nat → Int32) (R5 : Int32 → Int32 → (Nat → Int32) → Prop) : Prop :=
  ((t_current_n ≤ x4 → (zb x3 ∧ K x3 t_classes_leader)) ∧ (¬ t_current_n ≤ x4 → (pX7_turned t_current_cells x1 x4 (fun r28 => (pX7_turned t_current_cells x2 x4 (fun r38 => (pX1_join t_classes_n t_classes_leader r28 r38 (fun r41 t_classes_leader_41 => (pX7_turned t_current_cells x4 x1 (fun r57 => (pX7_turned t_current_cells x4 x2 (fun r67 => (pX1_join t_classes_n t_classes_leader_41 r57 r67 (fun r70 t_classes_leader_70 => ((¬ x3 = 0 → (pX10_joinTurnsOf_89 t_classes_n t_current_n t_current_cells R5 K x1 x2 x4 t_classes_leader_70)) ∧ (x3 = 0 → ((¬ r41 = 0 → (pX10_joinTurnsOf_89 t_classes_n t_current_n t_current_cells R5 K x1 x2 x4 t_classes_leader_70)) ∧ (r41 = 0 → ((r70 = 0 → (R5 (0 : Int32) (x4 + 1) t_classes_leader_70)) ∧ (¬ r70 = 0 → (pX10_joinTurnsOf_89 t_classes_n t_current_n t_current_cells R5 K x1 x2 x4 t_classes_leader_70)))))))))))))))))))))

def pX10_joinTurnsOf (t_classes_n : Int32) (t_classes_leader : Nat → Int32) (t_current_n : Int32) (t_current_cells : Nat → Int32) (x1 : Int32) (x2 : Int32) (K : Int32 → (Nat → Int32) → Prop) : Prop :=
  (lpW3 (pX10_joinTurnsOf_5 t_classes_n t_current_n t_current_cells K x1 x2) (0 : Int32) (0 : Int32) t_classes_leader)

def pX10_joinWhatMustBeOne_39 (t_classes_n : Int32) (t_current_n : Int32) (t_current_cells : Nat → Int32) (R4 : Int32 → Int32 → (Nat → Int32) → Prop) (R23 : Int32 → Int32 → (Nat → Int32) → Prop) (K : (Nat → Int32) → Prop) (x2 : Int32) (x3 : Int32) (x1 : Int32) (x4 : Int32) (t_classes_leader : Nat → Int32) (R39 : Int32 → Int32 → (Nat → Int32) → Prop) : Prop :=
  ((t_current_n ≤ x4 → (R23 x1 (x3 + 1) t_classes_leader)) ∧ (¬ t_current_n ≤ x4 → (pX1_areOne t_classes_leader x3 x4 (fun r58 => ((r58 = 0 → (R39 x1 (x4 + 1) t_classes_leader)) ∧ (¬ r58 = 0 → (pX10_joinTurnsOf t_classes_n t_classes_leader t_current_n t_current_cells x3 x4 (fun r68 t_classes_leader_68 => ((r68 = 0 → (R39 x1 (x4 + 1) t_classes_leader_68)) ∧ (¬ r68 = 0 → (R39 (1 : Int32) (x4 + 1) t_classes_leader_68)))))))))))

def pX10_joinWhatMustBeOne_23 (t_classes_n : Int32) (t_current_n : Int32) (t_current_cells : Nat → Int32) (R4 : Int32 → Int32 → (Nat → Int32) → Prop) (K : (Nat → Int32) → Prop) (x2 : Int32) (x1 : Int32) (x3 : Int32) (t_classes_leader : Nat → Int32) (R23 : Int32 → Int32 → (Nat → Int32) → Prop) : Prop :=
  ((t_current_n ≤ x3 → (R4 x1 (x2 + 1) t_classes_leader)) ∧ (¬ t_current_n ≤ x3 → (lpW3 (pX10_joinWhatMustBeOne_39 t_classes_n t_current_n t_current_cells R4 R23 K x2 x3) x1 (x3 + (1 : Int32)) t_classes_leader)))

def pX10_joinWhatMustBeOne_4 (t_classes_n : Int32) (t_current_n : Int32) (t_current_cells : Nat → Int32) (K : (Nat → Int32) → Prop) (x1 : Int32) (x2 : Int32) (t_classes_leader : Nat → Int32) (R4 : Int32 → Int32 → (Nat → Int32) → Prop) : Prop :=
  ((t_current_n ≤ x2 → (K t_classes_leader)) ∧ (¬ t_current_n ≤ x2 → ((x1 = 0 → (K t_classes_leader)) ∧ (¬ x1 = 0 → (lpW3 (pX10_joinWhatMustBeOne_23 t_classes_n t_current_n t_current_cells R4 K x2) (0 : Int32) (0 : Int32) t_classes_leader)))))

def pX10_joinWhatMustBeOne (t_classes_n : Int32) (t_classes_leader : Nat → Int32) (t_current_n : Int32) (t_current_cells : Nat → Int32) (K : (Nat → Int32) → Prop) : Prop :=
  (lpW3 (pX10_joinWhatMustBeOne_4 t_classes_n t_current_n t_current_cells K) (1 : Int32) (0 : Int32) t_classes_leader)

def pX10_part_92 (R78 : Int32 → (Nat → Int32) → Prop) (K : Int32 → Int32 → (Nat → Int32) → (Nat → Int32) → Int32 → (Nat → Int32) → Int32 → (Nat → Int32) → (Nat → Int32) → Prop) (t_classes_n : Int32) (t_classes_leader : Nat → Int32) (t_classes_numbers : Nat → Int32) (t_current_n : Int32) (t_current_cells : Nat → Int32) (t_draft_n : Int32) (t_twisting_values : Nat → Int32) (x3 : Int32) (x4 : Int32) (t_draft_cells : Nat → Int32) (R92 : Int32 → (Nat → Int32) → Prop) : Prop :=
  ((t_current_n ≤ x4 → (R78 (x3 + 1) t_draft_cells)) ∧ (¬ t_current_n ≤ x4 → (pX1_numberOf t_classes_numbers x3 (fun r113 => (pX1_numberOf t_classes_numbers x4 (fun r122 => (pX7_turned t_current_cells x3 x4 (fun r136 => (pX1_numberOf t_classes_numbers r136 (fun r139 => (pX7_put t_draft_cells r113 r122 r139 (fun t_draft_cells_142 => (R92 (x4 + 1) t_draft_cells_142)))))))))))))

def pX10_part_78 (K : Int32 → Int32 → (Nat → Int32) → (Nat → Int32) → Int32 → (Nat → Int32) → Int32 → (Nat → Int32) → (Nat → Int32) → Prop) (t_classes_n : Int32) (t_classes_leader : Nat → Int32) (t_classes_numbers : Nat → Int32) (t_current_n : Int32) (t_current_cells : Nat → Int32) (t_draft_n : Int32) (t_twisting_values : Nat → Int32) (x3 : Int32) (t_draft_cells : Nat → Int32) (R78 : Int32 → (Nat → Int32) → Prop) : Prop :=
  ((t_current_n ≤ x3 → (pX10_adoptDraft t_current_n t_current_cells t_draft_n t_draft_cells t_twisting_values (fun r158 t_current_n_158 t_current_cells_158 t_twisting_values_158 => (K r158 t_classes_n t_classes_leader t_classes_numbers t_current_n_158 t_current_cells_158 t_draft_n t_draft_cells t_twisting_values_158)))) ∧ (¬ t_current_n ≤ x3 → (lpW2 (pX10_part_92 R78 K t_classes_n t_classes_leader t_classes_numbers t_current_n t_current_cells t_draft_n t_twisting_values x3) (0 : Int32) t_draft_cells)))

def pX10_part (t_classes_n : Int32) (t_classes_leader : Nat → Int32) (t_classes_numbers : Nat → Int32) (t_current_n : Int32) (t_current_cells : Nat → Int32) (t_draft_n : Int32) (t_draft_cells : Nat → Int32) (t_twisting_values : Nat → Int32) (x1 : Int32) (x2 : Int32) (K : Int32 → Int32 → (Nat → Int32) → (Nat → Int32) → Int32 → (Nat → Int32) → Int32 → (Nat → Int32) → (Nat → Int32) → Prop) : Prop :=
  (pX7_has t_current_n x1 (fun r5 => ((r5 = 0 → (K (-1 : Int32) t_classes_n t_classes_leader t_classes_numbers t_current_n t_current_cells t_draft_n t_draft_cells t_twisting_values)) ∧ (¬ r5 = 0 → (pX7_has t_current_n x2 (fun r16 => ((r16 = 0 → (K (-1 : Int32) t_classes_n t_classes_leader t_classes_numbers t_current_n t_current_cells t_draft_n t_draft_cells t_twisting_values)) ∧ (¬ r16 = 0 → (pX7_isRack t_current_n t_current_cells (fun r26 => ((¬ r26 = 0 → (pX1_split t_classes_n t_classes_leader t_current_n (fun t_classes_n_45 t_classes_leader_45 => (pX1_join t_classes_n_45 t_classes_leader_45 x1 x2 (fun r54 t_classes_leader_54 => (pX10_joinWhatMustBeOne t_classes_n_45 t_classes_leader_54 t_current_n t_current_cells (fun t_classes_leader_59 => (pX1_number t_classes_n_45 t_classes_leader_59 t_classes_numbers (fun r70 t_classes_numbers_70 => (lpW2 (pX10_part_78 K t_classes_n_45 t_classes_leader_59 t_classes_numbers_70 t_current_n t_current_cells r70 t_twisting_values) (0 : Int32) t_draft_cells)))))))))) ∧ (r26 = 0 → (K (-1 : Int32) t_classes_n t_classes_leader t_classes_numbers t_current_n t_current_cells t_draft_n t_draft_cells t_twisting_values)))))))))))))

def pX10_closedSet_44 (t_current_n : Int32) (t_current_cells : Nat → Int32) (R7 : Int32 → Int32 → Int32 → Prop) (R29 : Int32 → Int32 → Prop) (K : Int32 → Prop) (x3 : Int32) (x4 : Int32) (x5 : Int32) (x2 : Int32) (x6 : Int32) (R44 : Int32 → Int32 → Prop) : Prop :=
  ((t_current_n ≤ x6 → (R29 x2 (x5 + 1))) ∧ (¬ t_current_n ≤ x6 → ((¬ (((x2 >>> (x5 &&& 31)) &&& (x2 >>> (x6 &&& 31))) &&& (1 : Int32)) = (1 : Int32) → (R44 x2 (x6 + 1))) ∧ ((((x2 >>> (x5 &&& 31)) &&& (x2 >>> (x6 &&& 31))) &&& (1 : Int32)) = (1 : Int32) → (pX7_turned t_current_cells x5 x6 (fun r81 => (R44 (x2 ||| ((1 : Int32) <<< (r81 &&& 31))) (x6 + 1))))))))

def pX10_closedSet_29 (t_current_n : Int32) (t_current_cells : Nat → Int32) (R7 : Int32 → Int32 → Int32 → Prop) (K : Int32 → Prop) (x3 : Int32) (x4 : Int32) (x2 : Int32) (x5 : Int32) (R29 : Int32 → Int32 → Prop) : Prop :=
  ((t_current_n ≤ x5 → (R7 x2 x3 (x4 + 1))) ∧ (¬ t_current_n ≤ x5 → (lpW2 (pX10_closedSet_44 t_current_n t_current_cells R7 R29 K x3 x4 x5) x2 (0 : Int32))))

def pX10_closedSet_7 (t_current_n : Int32) (t_current_cells : Nat → Int32) (K : Int32 → Prop) (x2 : Int32) (x3 : Int32) (x4 : Int32) (R7 : Int32 → Int32 → Int32 → Prop) : Prop :=
  ((t_current_n ≤ x4 → (K x2)) ∧ (¬ t_current_n ≤ x4 → ((x2 = x3 → (K x2)) ∧ (¬ x2 = x3 → (lpW2 (pX10_closedSet_29 t_current_n t_current_cells R7 K x2 x4) x2 (0 : Int32))))))

def pX10_closedSet (t_current_n : Int32) (t_current_cells : Nat → Int32) (x1 : Int32) (K : Int32 → Prop) : Prop :=
  (lpW3 (pX10_closedSet_7 t_current_n t_current_cells K) x1 (0 : Int32) (0 : Int32))

def pX10_within_32 (t_current_n : Int32) (t_current_cells : Nat → Int32) (K : Int32 → Int32 → (Nat → Int32) → Prop) (x2 : Int32) (x3 : Int32) (t_toldCount : Int32) (t_told : Nat → Int32) (R32 : Int32 → Int32 → (Nat → Int32) → Prop) : Prop :=
  ((t_current_n ≤ x3 → (K t_toldCount t_toldCount t_told)) ∧ (¬ t_current_n ≤ x3 → ((¬ ((x2 >>> (x3 &&& 31)) &&& (1 : Int32)) = (1 : Int32) → (R32 (x3 + 1) t_toldCount t_told)) ∧ (((x2 >>> (x3 &&& 31)) &&& (1 : Int32)) = (1 : Int32) → (pX10_tell t_toldCount t_told x3 (fun t_toldCount_54 t_told_54 => (R32 (x3 + 1) t_toldCount_54 t_told_54)))))))

def pX10_within (t_toldCount : Int32) (t_current_n : Int32) (t_current_cells : Nat → Int32) (t_told : Nat → Int32) (x1 : Int32) (K : Int32 → Int32 → (Nat → Int32) → Prop) : Prop :=
  ((x1 ≤ 0 → (K (-1 : Int32) t_toldCount t_told)) ∧ (¬ x1 ≤ 0 → ((x1 < ((1 : Int32) <<< (t_current_n &&& 31)) → (pX10_closedSet t_current_n t_current_cells x1 (fun r21 => (lpW3 (pX10_within_32 t_current_n t_current_cells K r21) (0 : Int32) (0 : Int32) t_told)))) ∧ (¬ x1 < ((1 : Int32) <<< (t_current_n &&& 31)) → (K (-1 : Int32) t_toldCount t_told)))))

def pX10_modulus (t_twisting_modulus : Int32) (t_twisting_values : Nat → Int32) (x1 : Int32) (K : Int32 → Int32 → (Nat → Int32) → Prop) : Prop :=
  ((x1 < (2 : Int32) → (zb (0 : Int32) ∧ K (0 : Int32) t_twisting_modulus t_twisting_values)) ∧ (¬ x1 < (2 : Int32) → ((x1 ≤ (7 : Int32) → (pX9_flatten t_twisting_values (fun t_twisting_values_25 => (zb (1 : Int32) ∧ K (1 : Int32) x1 t_twisting_values_25)))) ∧ (¬ x1 ≤ (7 : Int32) → (zb (0 : Int32) ∧ K (0 : Int32) t_twisting_modulus t_twisting_values)))))

def pX10_twist (t_current_n : Int32) (t_twisting_modulus : Int32) (t_twisting_values : Nat → Int32) (x1 : Int32) (x2 : Int32) (x3 : Int32) (K : Int32 → (Nat → Int32) → Prop) : Prop :=
  (pX7_has t_current_n x1 (fun r5 => ((r5 = 0 → (zb (0 : Int32) ∧ K (0 : Int32) t_twisting_values)) ∧ (¬ r5 = 0 → (pX7_has t_current_n x2 (fun r16 => ((r16 = 0 → (zb (0 : Int32) ∧ K (0 : Int32) t_twisting_values)) ∧ (¬ r16 = 0 → ((x3 < 0 → (zb (0 : Int32) ∧ K (0 : Int32) t_twisting_values)) ∧ (¬ x3 < 0 → ((x3 < t_twisting_modulus → (pX9_put t_twisting_values x1 x2 x3 (fun t_twisting_values_46 => (zb (1 : Int32) ∧ K (1 : Int32) t_twisting_values_46)))) ∧ (¬ x3 < t_twisting_modulus → (zb (0 : Int32) ∧ K (0 : Int32) t_twisting_values)))))))))))))

def pX10_twisted_34 (t_current_n : Int32) (t_twisting_values : Nat → Int32) (K : Int32 → Prop) : Prop :=
  (K (-1 : Int32))

def pX10_twisted (t_current_n : Int32) (t_twisting_values : Nat → Int32) (x1 : Int32) (x2 : Int32) (K : Int32 → Prop) : Prop :=
  (pX7_has t_current_n x1 (fun r5 => ((r5 = 0 → (pX10_twisted_34 t_current_n t_twisting_values K)) ∧ (¬ r5 = 0 → (pX7_has t_current_n x2 (fun r16 => ((r16 = 0 → (pX10_twisted_34 t_current_n t_twisting_values K)) ∧ (¬ r16 = 0 → (pX9_value t_twisting_values x1 x2 (fun r28 => (K r28)))))))))))

def pX10_closed (t_toldCount : Int32) (t_current_n : Int32) (t_current_cells : Nat → Int32) (t_told : Nat → Int32) (t_twisting_modulus : Int32) (t_twisting_values : Nat → Int32) (K : Int32 → Int32 → (Nat → Int32) → Prop) : Prop :=
  (pX7_isRack t_current_n t_current_cells (fun r4 => ((¬ r4 = 0 → (pX9_firstOpenTriple t_twisting_modulus t_twisting_values t_current_n t_current_cells (fun r20 => ((¬ r20 = (-1 : Int32) → (pX10_tellTriple t_toldCount t_told r20 (fun t_toldCount_33 t_told_33 => (K (1 : Int32) t_toldCount_33 t_told_33)))) ∧ (r20 = (-1 : Int32) → (K (0 : Int32) t_toldCount t_told)))))) ∧ (r4 = 0 → (K (-1 : Int32) t_toldCount t_told)))))

def pX10_cover_85 (t_twisting_modulus : Int32) (R67 : Int32 → (Nat → Int32) → Prop) (K : Int32 → Int32 → (Nat → Int32) → Int32 → (Nat → Int32) → (Nat → Int32) → Prop) (x1 : Int32) (t_current_n : Int32) (t_current_cells : Nat → Int32) (t_draft_n : Int32) (t_twisting_values : Nat → Int32) (x2 : Int32) (x3 : Int32) (x4 : Int32) (t_draft_cells : Nat → Int32) (R85 : Int32 → (Nat → Int32) → Prop) : Prop :=
  ((t_draft_n ≤ x4 → (R67 (x2 + 1) t_draft_cells)) ∧ (¬ t_draft_n ≤ x4 → (¬ x1 = 0 ∧ (pX7_turned t_current_cells x3 (x4 / x1) (fun r118 => (¬ x1 = 0 ∧ (pX9_value t_twisting_values x3 (x4 / x1) (fun r133 => (¬ x1 = 0 ∧ (pX7_put t_draft_cells x2 x4 ((x1 * r118) + (((x4 - x4 / x1 * x1) + r133) - ((x4 - x4 / x1 * x1) + r133) / x1 * x1)) (fun t_draft_cells_140 => (R85 (x4 + 1) t_draft_cells_140))))))))))))

def pX10_cover_67 (t_twisting_modulus : Int32) (K : Int32 → Int32 → (Nat → Int32) → Int32 → (Nat → Int32) → (Nat → Int32) → Prop) (x1 : Int32) (t_current_n : Int32) (t_current_cells : Nat → Int32) (t_draft_n : Int32) (t_twisting_values : Nat → Int32) (x2 : Int32) (t_draft_cells : Nat → Int32) (R67 : Int32 → (Nat → Int32) → Prop) : Prop :=
  ((t_draft_n ≤ x2 → (pX10_adoptDraft t_current_n t_current_cells t_draft_n t_draft_cells t_twisting_values (fun r156 t_current_n_156 t_current_cells_156 t_twisting_values_156 => (K r156 t_current_n_156 t_current_cells_156 t_draft_n t_draft_cells t_twisting_values_156)))) ∧ (¬ t_draft_n ≤ x2 → (¬ x1 = 0 ∧ (lpW2 (pX10_cover_85 t_twisting_modulus R67 K x1 t_current_n t_current_cells t_draft_n t_twisting_values x2 (x2 / x1)) (0 : Int32) t_draft_cells))))

def pX10_cover (t_current_n : Int32) (t_current_cells : Nat → Int32) (t_draft_n : Int32) (t_draft_cells : Nat → Int32) (t_twisting_modulus : Int32) (t_twisting_values : Nat → Int32) (K : Int32 → Int32 → (Nat → Int32) → Int32 → (Nat → Int32) → (Nat → Int32) → Prop) : Prop :=
  (((8 : Int32) < (t_current_n * t_twisting_modulus) → (K (-1 : Int32) t_current_n t_current_cells t_draft_n t_draft_cells t_twisting_values)) ∧ (¬ (8 : Int32) < (t_current_n * t_twisting_modulus) → (pX7_isRack t_current_n t_current_cells (fun r26 => ((r26 = 0 → (K (-1 : Int32) t_current_n t_current_cells t_draft_n t_draft_cells t_twisting_values)) ∧ (¬ r26 = 0 → (pX9_firstOpenTriple t_twisting_modulus t_twisting_values t_current_n t_current_cells (fun r40 => ((r40 = (-1 : Int32) → (lpW2 (pX10_cover_67 t_twisting_modulus K t_twisting_modulus t_current_n t_current_cells (t_current_n * t_twisting_modulus) t_twisting_values) (0 : Int32) t_draft_cells)) ∧ (¬ r40 = (-1 : Int32) → (K (-1 : Int32) t_current_n t_current_cells t_draft_n t_draft_cells t_twisting_values)))))))))))

def pX10_power_26 (t_current_n : Int32) (t_current_cells : Nat → Int32) (K : Int32 → Int32 → (Nat → Int32) → (Nat → Int32) → Int32 → Int32 → Int32 → Int64 → (Nat → Int32) → (Nat → Int32) → Prop) (x1 : Int32) (x2 : Int32) (s0 : Int32) (t_classes_n : Int32) (t_classes_leader : Nat → Int32) (t_classes_numbers : Nat → Int32) (t_solver_things : Int32) (t_solver_unknowns : Int32) (t_solver_prime : Int32) (t_solver_leads : Int64) (t_solver_equation : Nat → Int32) (t_solver_steps : Nat → Int32) : Prop :=
  ((s0 = 0 → (K (-1 : Int32) t_classes_n t_classes_leader t_classes_numbers t_solver_things t_solver_unknowns t_solver_prime t_solver_leads t_solver_equation t_solver_steps)) ∧ (¬ s0 = 0 → ((x2 < 0 → (K (-1 : Int32) t_classes_n t_classes_leader t_classes_numbers t_solver_things t_solver_unknowns t_solver_prime t_solver_leads t_solver_equation t_solver_steps)) ∧ (¬ x2 < 0 → (((1 : Int32) < x2 → (K (-1 : Int32) t_classes_n t_classes_leader t_classes_numbers t_solver_things t_solver_unknowns t_solver_prime t_solver_leads t_solver_equation t_solver_steps)) ∧ (¬ (1 : Int32) < x2 → (pX7_isRack t_current_n t_current_cells (fun r44 => ((¬ r44 = 0 → ((¬ x2 = 0 → (pX10_splitIntoOrbits t_classes_n t_classes_leader t_classes_numbers t_current_n t_current_cells (fun r77 t_classes_n_77 t_classes_leader_77 t_classes_numbers_77 => (K (t_current_n - r77) t_classes_n_77 t_classes_leader_77 t_classes_numbers_77 t_solver_things t_solver_unknowns t_solver_prime t_solver_leads t_solver_equation t_solver_steps)))) ∧ (x2 = 0 → (pX6_closedPower t_solver_things t_solver_unknowns t_solver_prime t_solver_leads t_solver_equation t_solver_steps t_current_n t_current_cells x1 (fun r65 t_solver_things_65 t_solver_unknowns_65 t_solver_prime_65 t_solver_leads_65 t_solver_equation_65 t_solver_steps_65 => (K r65 t_classes_n t_classes_leader t_classes_numbers t_solver_things_65 t_solver_unknowns_65 t_solver_prime_65 t_solver_leads_65 t_solver_equation_65 t_solver_steps_65)))))) ∧ (r44 = 0 → (K (-1 : Int32) t_classes_n t_classes_leader t_classes_numbers t_solver_things t_solver_unknowns t_solver_prime t_solver_leads t_solver_equation t_solver_steps)))))))))))

def pX10_power_21 (t_current_n : Int32) (t_current_cells : Nat → Int32) (K : Int32 → Int32 → (Nat → Int32) → (Nat → Int32) → Int32 → Int32 → Int32 → Int64 → (Nat → Int32) → (Nat → Int32) → Prop) (x1 : Int32) (x2 : Int32) (t_classes_n : Int32) (t_classes_leader : Nat → Int32) (t_classes_numbers : Nat → Int32) (t_solver_things : Int32) (t_solver_unknowns : Int32) (t_solver_prime : Int32) (t_solver_leads : Int64) (t_solver_equation : Nat → Int32) (t_solver_steps : Nat → Int32) : Prop :=
  (pX10_power_26 t_current_n t_current_cells K x1 x2 (1 : Int32) t_classes_n t_classes_leader t_classes_numbers t_solver_things t_solver_unknowns t_solver_prime t_solver_leads t_solver_equation t_solver_steps)

def pX10_power (t_classes_n : Int32) (t_classes_leader : Nat → Int32) (t_classes_numbers : Nat → Int32) (t_current_n : Int32) (t_current_cells : Nat → Int32) (t_solver_things : Int32) (t_solver_unknowns : Int32) (t_solver_prime : Int32) (t_solver_leads : Int64) (t_solver_equation : Nat → Int32) (t_solver_steps : Nat → Int32) (x1 : Int32) (x2 : Int32) (K : Int32 → Int32 → (Nat → Int32) → (Nat → Int32) → Int32 → Int32 → Int32 → Int64 → (Nat → Int32) → (Nat → Int32) → Prop) : Prop :=
  ((x1 = (2 : Int32) → (pX10_power_21 t_current_n t_current_cells K x1 x2 t_classes_n t_classes_leader t_classes_numbers t_solver_things t_solver_unknowns t_solver_prime t_solver_leads t_solver_equation t_solver_steps)) ∧ (¬ x1 = (2 : Int32) → ((x1 = (3 : Int32) → (pX10_power_21 t_current_n t_current_cells K x1 x2 t_classes_n t_classes_leader t_classes_numbers t_solver_things t_solver_unknowns t_solver_prime t_solver_leads t_solver_equation t_solver_steps)) ∧ (¬ x1 = (3 : Int32) → ((x1 = (5 : Int32) → (pX10_power_21 t_current_n t_current_cells K x1 x2 t_classes_n t_classes_leader t_classes_numbers t_solver_things t_solver_unknowns t_solver_prime t_solver_leads t_solver_equation t_solver_steps)) ∧ (¬ x1 = (5 : Int32) → ((¬ x1 = (7 : Int32) → (pX10_power_26 t_current_n t_current_cells K x1 x2 (0 : Int32) t_classes_n t_classes_leader t_classes_numbers t_solver_things t_solver_unknowns t_solver_prime t_solver_leads t_solver_equation t_solver_steps)) ∧ (x1 = (7 : Int32) → (pX10_power_21 t_current_n t_current_cells K x1 x2 t_classes_n t_classes_leader t_classes_numbers t_solver_things t_solver_unknowns t_solver_prime t_solver_leads t_solver_equation t_solver_steps)))))))))

def pX10_strands (t_braid_width : Int32) (t_braid_length : Int32) (x1 : Int32) (K : Int32 → Int32 → Int32 → Prop) : Prop :=
  ((x1 < (2 : Int32) → (zb (0 : Int32) ∧ K (0 : Int32) t_braid_width t_braid_length)) ∧ (¬ x1 < (2 : Int32) → ((x1 ≤ (4 : Int32) → (zb (1 : Int32) ∧ K (1 : Int32) x1 (0 : Int32))) ∧ (¬ x1 ≤ (4 : Int32) → (zb (0 : Int32) ∧ K (0 : Int32) t_braid_width t_braid_length)))))

def pX10_letter (t_braid_width : Int32) (t_braid_length : Int32) (t_braid_word : Nat → Int32) (x1 : Int32) (K : Int32 → Int32 → (Nat → Int32) → Prop) : Prop :=
  ((x1 = 0 → (K (-1 : Int32) t_braid_length t_braid_word)) ∧ (¬ x1 = 0 → ((x1 < (-(t_braid_width - (1 : Int32))) → (K (-1 : Int32) t_braid_length t_braid_word)) ∧ (¬ x1 < (-(t_braid_width - (1 : Int32))) → (((t_braid_width - (1 : Int32)) < x1 → (K (-1 : Int32) t_braid_length t_braid_word)) ∧ (¬ (t_braid_width - (1 : Int32)) < x1 → ((t_braid_length < (24 : Int32) → (pX0_add t_braid_length t_braid_word x1 (fun t_braid_length_44 t_braid_word_44 => (K t_braid_length_44 t_braid_length_44 t_braid_word_44)))) ∧ (¬ t_braid_length < (24 : Int32) → (K (-1 : Int32) t_braid_length t_braid_word)))))))))

def pX10_colours_46 (t_braid_width : Int32) (t_braid_length : Int32) (t_braid_word : Nat → Int32) (t_current_n : Int32) (t_current_cells : Nat → Int32) (t_twisting_modulus : Int32) (t_twisting_values : Nat → Int32) (K : Int32 → (Nat → Int32) → (Nat → Int32) → (Nat → Int32) → Int32 → (Nat → Int32) → Prop) (t_braid_ahead : Nat → Int32) (t_braid_now : Nat → Int32) (t_braid_tallies : Nat → Int32) (t_contrary_n : Int32) (t_contrary_cells : Nat → Int32) (x1 : Int32) (x2 : Int32) (R46 : Int32 → Int32 → Prop) : Prop :=
  ((t_twisting_modulus ≤ x2 → (K x1 t_braid_ahead t_braid_now t_braid_tallies t_contrary_n t_contrary_cells)) ∧ (¬ t_twisting_modulus ≤ x2 → (pX0_tallied t_braid_tallies x2 (fun r63 => (R46 (x1 + r63) (x2 + 1))))))

def pX10_colours (t_braid_width : Int32) (t_braid_length : Int32) (t_braid_ahead : Nat → Int32) (t_braid_now : Nat → Int32) (t_braid_tallies : Nat → Int32) (t_braid_word : Nat → Int32) (t_contrary_n : Int32) (t_contrary_cells : Nat → Int32) (t_current_n : Int32) (t_current_cells : Nat → Int32) (t_twisting_modulus : Int32) (t_twisting_values : Nat → Int32) (K : Int32 → (Nat → Int32) → (Nat → Int32) → (Nat → Int32) → Int32 → (Nat → Int32) → Prop) : Prop :=
  (pX7_isRack t_current_n t_current_cells (fun r4 => ((¬ r4 = 0 → (pX7_makeContrary t_contrary_n t_contrary_cells t_current_n t_current_cells (fun t_contrary_n_20 t_contrary_cells_20 => (pX0_tally t_braid_width t_braid_length t_braid_ahead t_braid_now t_braid_tallies t_braid_word t_current_n t_current_cells t_contrary_cells_20 t_twisting_modulus t_twisting_values (fun t_braid_ahead_39 t_braid_now_39 t_braid_tallies_39 => (lpW2 (pX10_colours_46 t_braid_width t_braid_length t_braid_word t_current_n t_current_cells t_twisting_modulus t_twisting_values K t_braid_ahead_39 t_braid_now_39 t_braid_tallies_39 t_contrary_n_20 t_contrary_cells_20) (0 : Int32) (0 : Int32))))))) ∧ (r4 = 0 → (K (-1 : Int32) t_braid_ahead t_braid_now t_braid_tallies t_contrary_n t_contrary_cells)))))

def pX10_sums (t_braid_width : Int32) (t_braid_length : Int32) (t_braid_ahead : Nat → Int32) (t_braid_now : Nat → Int32) (t_braid_tallies : Nat → Int32) (t_braid_word : Nat → Int32) (t_contrary_n : Int32) (t_contrary_cells : Nat → Int32) (t_current_n : Int32) (t_current_cells : Nat → Int32) (t_twisting_modulus : Int32) (t_twisting_values : Nat → Int32) (x1 : Int32) (K : Int32 → (Nat → Int32) → (Nat → Int32) → (Nat → Int32) → Int32 → (Nat → Int32) → Prop) : Prop :=
  ((x1 < 0 → (K (-1 : Int32) t_braid_ahead t_braid_now t_braid_tallies t_contrary_n t_contrary_cells)) ∧ (¬ x1 < 0 → ((t_twisting_modulus ≤ x1 → (K (-1 : Int32) t_braid_ahead t_braid_now t_braid_tallies t_contrary_n t_contrary_cells)) ∧ (¬ t_twisting_modulus ≤ x1 → (pX7_isRack t_current_n t_current_cells (fun r19 => ((¬ r19 = 0 → (pX7_makeContrary t_contrary_n t_contrary_cells t_current_n t_current_cells (fun t_contrary_n_35 t_contrary_cells_35 => (pX0_tally t_braid_width t_braid_length t_braid_ahead t_braid_now t_braid_tallies t_braid_word t_current_n t_current_cells t_contrary_cells_35 t_twisting_modulus t_twisting_values (fun t_braid_ahead_54 t_braid_now_54 t_braid_tallies_54 => (pX0_tallied t_braid_tallies_54 x1 (fun r62 => (K r62 t_braid_ahead_54 t_braid_now_54 t_braid_tallies_54 t_contrary_n_35 t_contrary_cells_35)))))))) ∧ (r19 = 0 → (K (-1 : Int32) t_braid_ahead t_braid_now t_braid_tallies t_contrary_n t_contrary_cells)))))))))

def pX10_isList_23 (K : Int32 → Prop) : Prop :=
  (zb (0 : Int32) ∧ K (0 : Int32))

def pX10_isList_19 (K : Int32 → Prop) : Prop :=
  (zb (1 : Int32) ∧ K (1 : Int32))

def pX10_isList (x0 : Int32) (x1 : Int32) (K : Int32 → Prop) : Prop :=
  ((x0 < (1 : Int32) → (pX10_isList_23 K)) ∧ (¬ x0 < (1 : Int32) → (((4 : Int32) < x0 → (pX10_isList_23 K)) ∧ (¬ (4 : Int32) < x0 → ((x1 = 0 → (pX10_isList_19 K)) ∧ (¬ x1 = 0 → ((¬ x1 = (1 : Int32) → (pX10_isList_23 K)) ∧ (x1 = (1 : Int32) → (pX10_isList_19 K)))))))))

def pX10_listed_25 (K : Int32 → (Nat → Nat → Int32) → (Nat → Int32) → Int32 → (Nat → Int32) → Int32 → Int32 → (Nat → Int32) → (Nat → Int32) → (Nat → Int32) → (Nat → Int32) → (Nat → Int32) → Prop) (s1 : Int32) (s2 : Int32) (t_lister_racks : Nat → Nat → Int32) (t_lister_sizes : Nat → Int32) (t_lister_trial_n : Int32) (t_lister_trial_cells : Nat → Int32) (t_namer_named : Int32) (t_namer_best_n : Int32) (t_namer_best_cells : Nat → Int32) (t_namer_firstRow : Nat → Int32) (t_namer_names : Nat → Int32) (t_namer_things : Nat → Int32) (t_namer_twins : Nat → Int32) : Prop :=
  (pX2_sizeOf t_lister_racks t_lister_sizes t_lister_trial_n t_lister_trial_cells t_namer_named t_namer_best_n t_namer_best_cells t_namer_firstRow t_namer_names t_namer_things t_namer_twins s1 s2 (fun r29 t_lister_racks_29 t_lister_sizes_29 t_lister_trial_n_29 t_lister_trial_cells_29 t_namer_named_29 t_namer_best_n_29 t_namer_best_cells_29 t_namer_firstRow_29 t_namer_names_29 t_namer_things_29 t_namer_twins_29 => (K r29 t_lister_racks_29 t_lister_sizes_29 t_lister_trial_n_29 t_lister_trial_cells_29 t_namer_named_29 t_namer_best_n_29 t_namer_best_cells_29 t_namer_firstRow_29 t_namer_names_29 t_namer_things_29 t_namer_twins_29)))

def pX10_listed (t_lister_racks : Nat → Nat → Int32) (t_lister_sizes : Nat → Int32) (t_lister_trial_n : Int32) (t_lister_trial_cells : Nat → Int32) (t_namer_named : Int32) (t_namer_best_n : Int32) (t_namer_best_cells : Nat → Int32) (t_namer_firstRow : Nat → Int32) (t_namer_names : Nat → Int32) (t_namer_things : Nat → Int32) (t_namer_twins : Nat → Int32) (x1 : Int32) (x2 : Int32) (K : Int32 → (Nat → Nat → Int32) → (Nat → Int32) → Int32 → (Nat → Int32) → Int32 → Int32 → (Nat → Int32) → (Nat → Int32) → (Nat → Int32) → (Nat → Int32) → (Nat → Int32) → Prop) : Prop :=
  (pX10_isList x1 x2 (fun r2 => ((¬ r2 = 0 → ((¬ x2 = (1 : Int32) → (pX10_listed_25 K x1 (0 : Int32) t_lister_racks t_lister_sizes t_lister_trial_n t_lister_trial_cells t_namer_named t_namer_best_n t_namer_best_cells t_namer_firstRow t_namer_names t_namer_things t_namer_twins)) ∧ (x2 = (1 : Int32) → (pX10_listed_25 K x1 (1 : Int32) t_lister_racks t_lister_sizes t_lister_trial_n t_lister_trial_cells t_namer_named t_namer_best_n t_namer_best_cells t_namer_firstRow t_namer_names t_namer_things t_namer_twins)))) ∧ (r2 = 0 → (K (-1 : Int32) t_lister_racks t_lister_sizes t_lister_trial_n t_lister_trial_cells t_namer_named t_namer_best_n t_namer_best_cells t_namer_firstRow t_namer_names t_namer_things t_namer_twins)))))

def pX10_pick_55 (K : Int32 → Int32 → (Nat → Int32) → Int32 → (Nat → Int32) → (Nat → Nat → Int32) → (Nat → Int32) → Int32 → (Nat → Int32) → Int32 → Int32 → (Nat → Int32) → (Nat → Int32) → (Nat → Int32) → (Nat → Int32) → (Nat → Int32) → (Nat → Int32) → Prop) (x3 : Int32) (s1 : Int32) (s2 : Int32) (t_current_n : Int32) (t_current_cells : Nat → Int32) (t_draft_n : Int32) (t_draft_cells : Nat → Int32) (t_lister_racks : Nat → Nat → Int32) (t_lister_sizes : Nat → Int32) (t_lister_trial_n : Int32) (t_lister_trial_cells : Nat → Int32) (t_namer_named : Int32) (t_namer_best_n : Int32) (t_namer_best_cells : Nat → Int32) (t_namer_firstRow : Nat → Int32) (t_namer_names : Nat → Int32) (t_namer_things : Nat → Int32) (t_namer_twins : Nat → Int32) (t_twisting_values : Nat → Int32) : Prop :=
  (pX2_unpack t_lister_racks t_lister_sizes t_draft_n t_draft_cells s1 s2 x3 (fun t_draft_n_60 t_draft_cells_60 => (pX10_adoptDraft t_current_n t_current_cells t_draft_n_60 t_draft_cells_60 t_twisting_values (fun r64 t_current_n_64 t_current_cells_64 t_twisting_values_64 => (zb (1 : Int32) ∧ K (1 : Int32) t_current_n_64 t_current_cells_64 t_draft_n_60 t_draft_cells_60 t_lister_racks t_lister_sizes t_lister_trial_n t_lister_trial_cells t_namer_named t_namer_best_n t_namer_best_cells t_namer_firstRow t_namer_names t_namer_things t_namer_twins t_twisting_values_64)))))

def pX10_pick_28 (K : Int32 → Int32 → (Nat → Int32) → Int32 → (Nat → Int32) → (Nat → Nat → Int32) → (Nat → Int32) → Int32 → (Nat → Int32) → Int32 → Int32 → (Nat → Int32) → (Nat → Int32) → (Nat → Int32) → (Nat → Int32) → (Nat → Int32) → (Nat → Int32) → Prop) (x1 : Int32) (x2 : Int32) (x3 : Int32) (s0 : Int32) (s2 : Int32) (s3 : Int32) (t_current_n : Int32) (t_current_cells : Nat → Int32) (t_draft_n : Int32) (t_draft_cells : Nat → Int32) (t_lister_racks : Nat → Nat → Int32) (t_lister_sizes : Nat → Int32) (t_lister_trial_n : Int32) (t_lister_trial_cells : Nat → Int32) (t_namer_named : Int32) (t_namer_best_n : Int32) (t_namer_best_cells : Nat → Int32) (t_namer_firstRow : Nat → Int32) (t_namer_names : Nat → Int32) (t_namer_things : Nat → Int32) (t_namer_twins : Nat → Int32) (t_twisting_values : Nat → Int32) : Prop :=
  (pX2_sizeOf t_lister_racks t_lister_sizes t_lister_trial_n t_lister_trial_cells t_namer_named t_namer_best_n t_namer_best_cells t_namer_firstRow t_namer_names t_namer_things t_namer_twins s2 s3 (fun r32 t_lister_racks_32 t_lister_sizes_32 t_lister_trial_n_32 t_lister_trial_cells_32 t_namer_named_32 t_namer_best_n_32 t_namer_best_cells_32 t_namer_firstRow_32 t_namer_names_32 t_namer_things_32 t_namer_twins_32 => ((s0 < r32 → ((¬ x2 = (1 : Int32) → (pX10_pick_55 K x3 x1 (0 : Int32) t_current_n t_current_cells t_draft_n t_draft_cells t_lister_racks_32 t_lister_sizes_32 t_lister_trial_n_32 t_lister_trial_cells_32 t_namer_named_32 t_namer_best_n_32 t_namer_best_cells_32 t_namer_firstRow_32 t_namer_names_32 t_namer_things_32 t_namer_twins_32 t_twisting_values)) ∧ (x2 = (1 : Int32) → (pX10_pick_55 K x3 x1 (1 : Int32) t_current_n t_current_cells t_draft_n t_draft_cells t_lister_racks_32 t_lister_sizes_32 t_lister_trial_n_32 t_lister_trial_cells_32 t_namer_named_32 t_namer_best_n_32 t_namer_best_cells_32 t_namer_firstRow_32 t_namer_names_32 t_namer_things_32 t_namer_twins_32 t_twisting_values)))) ∧ (¬ s0 < r32 → (zb (0 : Int32) ∧ K (0 : Int32) t_current_n t_current_cells t_draft_n t_draft_cells t_lister_racks_32 t_lister_sizes_32 t_lister_trial_n_32 t_lister_trial_cells_32 t_namer_named_32 t_namer_best_n_32 t_namer_best_cells_32 t_namer_firstRow_32 t_namer_names_32 t_namer_things_32 t_namer_twins_32 t_twisting_values)))))

def pX10_pick (t_current_n : Int32) (t_current_cells : Nat → Int32) (t_draft_n : Int32) (t_draft_cells : Nat → Int32) (t_lister_racks : Nat → Nat → Int32) (t_lister_sizes : Nat → Int32) (t_lister_trial_n : Int32) (t_lister_trial_cells : Nat → Int32) (t_namer_named : Int32) (t_namer_best_n : Int32) (t_namer_best_cells : Nat → Int32) (t_namer_firstRow : Nat → Int32) (t_namer_names : Nat → Int32) (t_namer_things : Nat → Int32) (t_namer_twins : Nat → Int32) (t_twisting_values : Nat → Int32) (x1 : Int32) (x2 : Int32) (x3 : Int32) (K : Int32 → Int32 → (Nat → Int32) → Int32 → (Nat → Int32) → (Nat → Nat → Int32) → (Nat → Int32) → Int32 → (Nat → Int32) → Int32 → Int32 → (Nat → Int32) → (Nat → Int32) → (Nat → Int32) → (Nat → Int32) → (Nat → Int32) → (Nat → Int32) → Prop) : Prop :=
  (pX10_isList x1 x2 (fun r2 => ((r2 = 0 → (zb (0 : Int32) ∧ K (0 : Int32) t_current_n t_current_cells t_draft_n t_draft_cells t_lister_racks t_lister_sizes t_lister_trial_n t_lister_trial_cells t_namer_named t_namer_best_n t_namer_best_cells t_namer_firstRow t_namer_names t_namer_things t_namer_twins t_twisting_values)) ∧ (¬ r2 = 0 → ((x3 < 0 → (zb (0 : Int32) ∧ K (0 : Int32) t_current_n t_current_cells t_draft_n t_draft_cells t_lister_racks t_lister_sizes t_lister_trial_n t_lister_trial_cells t_namer_named t_namer_best_n t_namer_best_cells t_namer_firstRow t_namer_names t_namer_things t_namer_twins t_twisting_values)) ∧ (¬ x3 < 0 → ((¬ x2 = (1 : Int32) → (pX10_pick_28 K x1 x2 x3 x3 x1 (0 : Int32) t_current_n t_current_cells t_draft_n t_draft_cells t_lister_racks t_lister_sizes t_lister_trial_n t_lister_trial_cells t_namer_named t_namer_best_n t_namer_best_cells t_namer_firstRow t_namer_names t_namer_things t_namer_twins t_twisting_values)) ∧ (x2 = (1 : Int32) → (pX10_pick_28 K x1 x2 x3 x3 x1 (1 : Int32) t_current_n t_current_cells t_draft_n t_draft_cells t_lister_racks t_lister_sizes t_lister_trial_n t_lister_trial_cells t_namer_named t_namer_best_n t_namer_best_cells t_namer_firstRow t_namer_names t_namer_things t_namer_twins t_twisting_values)))))))))

def pX11_thrown (t_thrown : Int32) (K : Int32 → Prop) : Prop :=
  (K t_thrown)

def pX11_in_17 (K : Int32 → Prop) : Prop :=
  (zb (0 : Int32) ∧ K (0 : Int32))

def pX11_in (x0 : Int64) (x2 : Int64) (x4 : Int64) (K : Int32 → Prop) : Prop :=
  (((lg_cmp x0 x2) < 0 → (pX11_in_17 K)) ∧ (¬ (lg_cmp x0 x2) < 0 → ((0 < (lg_cmp x0 x4) → (pX11_in_17 K)) ∧ (¬ 0 < (lg_cmp x0 x4) → (zb (1 : Int32) ∧ K (1 : Int32))))))

def pX11_refuse (t_thrown : Int32) (K : Int32 → Int32 → Prop) : Prop :=
  (K (0 : Int32) (1 : Int32))

def pX11_isThing (t_n : Int32) (x1 : Int32) (K : Int32 → Prop) : Prop :=
  (pX11_in (Int32.toInt64 x1) (0 : Int64) (Int32.toInt64 (t_n - (1 : Int32))) (fun r10 => (zb r10 ∧ K r10)))

def pX11_by (t_table : Nat → Int32) (x1 : Int32) (x2 : Int32) (K : Int32 → Prop) : Prop :=
  (vp_in (((8 : Int32) * x1) + x2) 64 ∧ (K (t_table (Int32.toNatClampNeg (((8 : Int32) * x1) + x2)))))

def pX11_straight_2 (K : (Nat → Int32) → Prop) (x1 : Int32) (t_twists : Nat → Int32) (R2 : Int32 → (Nat → Int32) → Prop) : Prop :=
  (((64 : Int32) ≤ x1 → (K t_twists)) ∧ (¬ (64 : Int32) ≤ x1 → (vp_in x1 64 ∧ (R2 (x1 + 1) (upd t_twists (Int32.toNatClampNeg x1) (0 : Int32))))))

def pX11_straight (t_twists : Nat → Int32) (K : (Nat → Int32) → Prop) : Prop :=
  (lpW2 (pX11_straight_2 K) (0 : Int32) t_twists)

def pX11_sized (t_n : Int32) (t_twists : Nat → Int32) (x1 : Int32) (K : Int32 → (Nat → Int32) → Prop) : Prop :=
  (pX11_straight t_twists (fun t_twists_1 => (K x1 t_twists_1)))

def pX11_table_37 (R30 : Int32 → (Nat → Int32) → Prop) (K : Int32 → Int32 → Int32 → (Nat → Int32) → (Nat → Int32) → Prop) (x1 : Int32) (t_thrown : Int32) (t_n : Int32) (t_twists : Nat → Int32) (x2 : Int32) (x3 : Int32) (t_table : Nat → Int32) (R37 : Int32 → (Nat → Int32) → Prop) : Prop :=
  ((x1 ≤ x3 → (R30 (x2 + 1) t_table)) ∧ (¬ x1 ≤ x3 → (vp_in (((8 : Int32) * x2) + x3) 64 ∧ (R37 (x3 + 1) (upd t_table (Int32.toNatClampNeg (((8 : Int32) * x2) + x3)) x3)))))

def pX11_table_30 (K : Int32 → Int32 → Int32 → (Nat → Int32) → (Nat → Int32) → Prop) (x1 : Int32) (t_thrown : Int32) (t_n : Int32) (t_twists : Nat → Int32) (x2 : Int32) (t_table : Nat → Int32) (R30 : Int32 → (Nat → Int32) → Prop) : Prop :=
  ((x1 ≤ x2 → (zb (1 : Int32) ∧ K (1 : Int32) t_thrown t_n t_table t_twists)) ∧ (¬ x1 ≤ x2 → (lpW2 (pX11_table_37 R30 K x1 t_thrown t_n t_twists x2) (0 : Int32) t_table)))

def pX11_table (t_thrown : Int32) (t_n : Int32) (t_table : Nat → Int32) (t_twists : Nat → Int32) (x1 : Int32) (K : Int32 → Int32 → Int32 → (Nat → Int32) → (Nat → Int32) → Prop) : Prop :=
  (pX11_in (Int32.toInt64 x1) (1 : Int64) (8 : Int64) (fun r11 => ((¬ r11 = 0 → (pX11_straight t_twists (fun t_twists_25 => (lpW2 (pX11_table_30 K x1 (0 : Int32) x1 t_twists_25) (0 : Int32) t_table)))) ∧ (r11 = 0 → (zb (0 : Int32) ∧ K (0 : Int32) (0 : Int32) t_n t_table t_twists)))))

def pX11_set (t_thrown : Int32) (t_n : Int32) (t_table : Nat → Int32) (x1 : Int32) (x2 : Int32) (x3 : Int32) (K : Int32 → Int32 → (Nat → Int32) → Prop) : Prop :=
  (pX11_isThing t_n x1 (fun r7 => ((r7 = 0 → (zb (0 : Int32) ∧ K (0 : Int32) (0 : Int32) t_table)) ∧ (¬ r7 = 0 → (pX11_isThing t_n x2 (fun r15 => ((r15 = 0 → (zb (0 : Int32) ∧ K (0 : Int32) (0 : Int32) t_table)) ∧ (¬ r15 = 0 → (pX11_isThing t_n x3 (fun r23 => ((¬ r23 = 0 → (vp_in (((8 : Int32) * x1) + x2) 64 ∧ (zb (1 : Int32) ∧ K (1 : Int32) (0 : Int32) (upd t_table (Int32.toNatClampNeg (((8 : Int32) * x1) + x2)) x3)))) ∧ (r23 = 0 → (zb (0 : Int32) ∧ K (0 : Int32) (0 : Int32) t_table)))))))))))))

def pX11_at_30 (t_n : Int32) (t_table : Nat → Int32) (K : Int32 → Int32 → Prop) (t_thrown : Int32) : Prop :=
  (pX11_refuse t_thrown (fun r31 t_thrown_31 => (K r31 t_thrown_31)))

def pX11_at (t_thrown : Int32) (t_n : Int32) (t_table : Nat → Int32) (x1 : Int32) (x2 : Int32) (K : Int32 → Int32 → Prop) : Prop :=
  (pX11_isThing t_n x1 (fun r7 => ((r7 = 0 → (pX11_at_30 t_n t_table K (0 : Int32))) ∧ (¬ r7 = 0 → (pX11_isThing t_n x2 (fun r15 => ((r15 = 0 → (pX11_at_30 t_n t_table K (0 : Int32))) ∧ (¬ r15 = 0 → (pX11_by t_table x1 x2 (fun r24 => (K r24 (0 : Int32))))))))))))

def pX11_common_b (rec : Int32 → Int32 → (Int32 → Prop) → Prop) (x0 : Int32) (x1 : Int32) (K : Int32 → Prop) : Prop :=
  ((¬ x1 = 0 → (¬ x1 = 0 ∧ (rec x1 (x0 - x0 / x1 * x1) (fun r12 => (K r12))))) ∧ (x1 = 0 → (K x0)))

def pX11_common : Nat → Int32 → Int32 → (Int32 → Prop) → Prop
  | 0 => fun _ _ _ => False
  | d + 1 => pX11_common_b (pX11_common d)

def pX11_line_61 (R53 : Int32 → (Nat → Int32) → Prop) (K : Int32 → Int32 → Int32 → (Nat → Int32) → (Nat → Int32) → Prop) (x1 : Int32) (x2 : Int32) (t_thrown : Int32) (t_n : Int32) (t_twists : Nat → Int32) (x3 : Int32) (x4 : Int32) (t_table : Nat → Int32) (R61 : Int32 → (Nat → Int32) → Prop) : Prop :=
  ((x1 ≤ x4 → (R53 (x3 + 1) t_table)) ∧ (¬ x1 ≤ x4 → (pJ9_floorMod_7cf53 ((((1 : Int32) - x2) * x3) + (x2 * x4)) x1 (fun r89 => (vp_in (((8 : Int32) * x3) + x4) 64 ∧ (R61 (x4 + 1) (upd t_table (Int32.toNatClampNeg (((8 : Int32) * x3) + x4)) r89)))))))

def pX11_line_53 (K : Int32 → Int32 → Int32 → (Nat → Int32) → (Nat → Int32) → Prop) (x1 : Int32) (x2 : Int32) (t_thrown : Int32) (t_n : Int32) (t_twists : Nat → Int32) (x3 : Int32) (t_table : Nat → Int32) (R53 : Int32 → (Nat → Int32) → Prop) : Prop :=
  ((x1 ≤ x3 → (zb (1 : Int32) ∧ K (1 : Int32) t_thrown t_n t_table t_twists)) ∧ (¬ x1 ≤ x3 → (lpW2 (pX11_line_61 R53 K x1 x2 t_thrown t_n t_twists x3) (0 : Int32) t_table)))

def pX11_line_46 (K : Int32 → Int32 → Int32 → (Nat → Int32) → (Nat → Int32) → Prop) (x1 : Int32) (x2 : Int32) (t_thrown : Int32) (t_n : Int32) (t_table : Nat → Int32) (t_twists : Nat → Int32) : Prop :=
  (pX11_sized t_n t_twists x1 (fun t_n_48 t_twists_48 => (lpW2 (pX11_line_53 K x1 x2 t_thrown t_n_48 t_twists_48) (0 : Int32) t_table)))

def pX11_line (t_thrown : Int32) (t_n : Int32) (t_table : Nat → Int32) (t_twists : Nat → Int32) (x1 : Int32) (x2 : Int32) (K : Int32 → Int32 → Int32 → (Nat → Int32) → (Nat → Int32) → Prop) : Prop :=
  (pX11_in (Int32.toInt64 x1) (1 : Int64) (8 : Int64) (fun r11 => ((r11 = 0 → (zb (0 : Int32) ∧ K (0 : Int32) (0 : Int32) t_n t_table t_twists)) ∧ (¬ r11 = 0 → (pX11_in (Int32.toInt64 x2) (0 : Int64) (Int32.toInt64 (x1 - (1 : Int32))) (fun r24 => ((r24 = 0 → (zb (0 : Int32) ∧ K (0 : Int32) (0 : Int32) t_n t_table t_twists)) ∧ (¬ r24 = 0 → ((x1 ≤ (1 : Int32) → (pX11_line_46 K x1 x2 (0 : Int32) t_n t_table t_twists)) ∧ (¬ x1 ≤ (1 : Int32) → (pX11_common 12 x1 x2 (fun r37 => ((r37 ≤ (1 : Int32) → (pX11_line_46 K x1 x2 (0 : Int32) t_n t_table t_twists)) ∧ (¬ r37 ≤ (1 : Int32) → (zb (0 : Int32) ∧ K (0 : Int32) (0 : Int32) t_n t_table t_twists)))))))))))))))

def pX11_factorial_b (rec : Int32 → (Int32 → Prop) → Prop) (x0 : Int32) (K : Int32 → Prop) : Prop :=
  (((2 : Int32) ≤ x0 → (rec (x0 - (1 : Int32)) (fun r13 => (K (x0 * r13))))) ∧ (¬ (2 : Int32) ≤ x0 → (K (1 : Int32))))

def pX11_factorial : Nat → Int32 → (Int32 → Prop) → Prop
  | 0 => fun _ _ => False
  | d + 1 => pX11_factorial_b (pX11_factorial d)

def pX11_permutation_55 (N_p2 : Nat) (R8 : Int32 → Int32 → Int32 → (Nat → Int32) → Prop) (R39 : Int32 → Int32 → Prop) (K : (Nat → Int32) → Prop) (x0 : Int32) (x3 : Int32) (x4 : Int32) (x5 : Int32) (p2 : Nat → Int32) (x7 : Int32) (x8 : Int32) : Prop :=
  ((¬ ((x4 >>> (x8 &&& 31)) &&& (1 : Int32)) = (1 : Int32) → (R39 (x7 - (1 : Int32)) (x8 + 1))) ∧ (((x4 >>> (x8 &&& 31)) &&& (1 : Int32)) = (1 : Int32) → (R39 (x7 - (0 : Int32)) (x8 + 1))))

def pX11_permutation_39 (N_p2 : Nat) (R8 : Int32 → Int32 → Int32 → (Nat → Int32) → Prop) (K : (Nat → Int32) → Prop) (x0 : Int32) (x3 : Int32) (x4 : Int32) (x5 : Int32) (p2 : Nat → Int32) (x7 : Int32) (x8 : Int32) (R39 : Int32 → Int32 → Prop) : Prop :=
  ((((x4 >>> (x8 &&& 31)) &&& (1 : Int32)) = (1 : Int32) → (pX11_permutation_55 N_p2 R8 R39 K x0 x3 x4 x5 p2 x7 x8)) ∧ (¬ ((x4 >>> (x8 &&& 31)) &&& (1 : Int32)) = (1 : Int32) → ((x7 ≤ 0 → (vp_in x5 N_p2 ∧ (R8 x3 (x4 ||| ((1 : Int32) <<< (x8 &&& 31))) (x5 + 1) (upd p2 (Int32.toNatClampNeg x5) x8)))) ∧ (¬ x7 ≤ 0 → (pX11_permutation_55 N_p2 R8 R39 K x0 x3 x4 x5 p2 x7 x8)))))

def pX11_permutation_8 (N_p2 : Nat) (K : (Nat → Int32) → Prop) (x0 : Int32) (x3 : Int32) (x4 : Int32) (x5 : Int32) (p2 : Nat → Int32) (R8 : Int32 → Int32 → Int32 → (Nat → Int32) → Prop) : Prop :=
  ((x0 ≤ x5 → (K p2)) ∧ (¬ x0 ≤ x5 → (pX11_factorial 10 ((x0 - (1 : Int32)) - x5) (fun r20 => (¬ r20 = 0 ∧ (¬ r20 = 0 ∧ (lpW2 (pX11_permutation_39 N_p2 R8 K x0 (x3 - x3 / r20 * r20) x4 x5 p2) (x3 / r20) (0 : Int32))))))))

def pX11_permutation (N_p2 : Nat) (p2 : Nat → Int32) (x0 : Int32) (x1 : Int32) (K : (Nat → Int32) → Prop) : Prop :=
  (lpW4 (pX11_permutation_8 N_p2 K x0) x1 (0 : Int32) (0 : Int32) p2)

def pX11_numberOf_17 (N_p1 : Nat) (p1 : Nat → Int32) (R4 : Int32 → Int32 → Prop) (K : Int32 → Prop) (x0 : Int32) (x2 : Int32) (x3 : Int32) (x4 : Int32) (x5 : Int32) (R17 : Int32 → Int32 → Prop) : Prop :=
  ((x0 ≤ x5 → (pX11_factorial 10 ((x0 - (1 : Int32)) - x3) (fun r57 => (R4 (x2 + (x4 * r57)) (x3 + 1))))) ∧ (¬ x0 ≤ x5 → (vp_in x5 N_p1 ∧ (vp_in x3 N_p1 ∧ (((p1 (Int32.toNatClampNeg x3)) ≤ (p1 (Int32.toNatClampNeg x5)) → (R17 (x4 + (0 : Int32)) (x5 + 1))) ∧ (¬ (p1 (Int32.toNatClampNeg x3)) ≤ (p1 (Int32.toNatClampNeg x5)) → (R17 (x4 + (1 : Int32)) (x5 + 1))))))))

def pX11_numberOf_4 (N_p1 : Nat) (p1 : Nat → Int32) (K : Int32 → Prop) (x0 : Int32) (x2 : Int32) (x3 : Int32) (R4 : Int32 → Int32 → Prop) : Prop :=
  ((x0 ≤ x3 → (K x2)) ∧ (¬ x0 ≤ x3 → (lpW2 (pX11_numberOf_17 N_p1 p1 R4 K x0 x2 x3) (0 : Int32) (x3 + (1 : Int32)))))

def pX11_numberOf (N_p1 : Nat) (p1 : Nat → Int32) (x0 : Int32) (K : Int32 → Prop) : Prop :=
  (lpW2 (pX11_numberOf_4 N_p1 p1 K x0) (0 : Int32) (0 : Int32))

def pX11_turn_59 (R51 : Int32 → (Nat → Int32) → Prop) (K : Int32 → Int32 → Int32 → (Nat → Int32) → (Nat → Int32) → (Nat → Int32) → Prop) (x1 : Int32) (t_thrown : Int32) (t_n : Int32) (t_f : Nat → Int32) (t_twists : Nat → Int32) (x3 : Int32) (x4 : Int32) (t_table : Nat → Int32) (R59 : Int32 → (Nat → Int32) → Prop) : Prop :=
  ((x1 ≤ x4 → (R51 (x3 + 1) t_table)) ∧ (¬ x1 ≤ x4 → (vp_in x4 8 ∧ (vp_in (((8 : Int32) * x3) + x4) 64 ∧ (R59 (x4 + 1) (upd t_table (Int32.toNatClampNeg (((8 : Int32) * x3) + x4)) (t_f (Int32.toNatClampNeg x4))))))))

def pX11_turn_51 (K : Int32 → Int32 → Int32 → (Nat → Int32) → (Nat → Int32) → (Nat → Int32) → Prop) (x1 : Int32) (t_thrown : Int32) (t_n : Int32) (t_f : Nat → Int32) (t_twists : Nat → Int32) (x3 : Int32) (t_table : Nat → Int32) (R51 : Int32 → (Nat → Int32) → Prop) : Prop :=
  ((x1 ≤ x3 → (zb (1 : Int32) ∧ K (1 : Int32) t_thrown t_n t_f t_table t_twists)) ∧ (¬ x1 ≤ x3 → (lpW2 (pX11_turn_59 R51 K x1 t_thrown t_n t_f t_twists x3) (0 : Int32) t_table)))

def pX11_turn (t_thrown : Int32) (t_n : Int32) (t_f : Nat → Int32) (t_table : Nat → Int32) (t_twists : Nat → Int32) (x1 : Int32) (x2 : Int32) (K : Int32 → Int32 → Int32 → (Nat → Int32) → (Nat → Int32) → (Nat → Int32) → Prop) : Prop :=
  (pX11_in (Int32.toInt64 x1) (1 : Int64) (8 : Int64) (fun r11 => ((r11 = 0 → (zb (0 : Int32) ∧ K (0 : Int32) (0 : Int32) t_n t_f t_table t_twists)) ∧ (¬ r11 = 0 → (pX11_factorial 10 x1 (fun r21 => (pX11_in (Int32.toInt64 x2) (0 : Int64) (Int32.toInt64 (r21 - (1 : Int32))) (fun r27 => ((¬ r27 = 0 → (pX11_sized t_n t_twists x1 (fun t_n_37 t_twists_37 => (pX11_permutation 8 t_f x1 x2 (fun t_f_46 => (lpW2 (pX11_turn_51 K x1 (0 : Int32) t_n_37 t_f_46 t_twists_37) (0 : Int32) t_table)))))) ∧ (r27 = 0 → (zb (0 : Int32) ∧ K (0 : Int32) (0 : Int32) t_n t_f t_table t_twists)))))))))))

def pX11_turnedBy_20 (K : Int32 → (Nat → Int32) → (Nat → Int32) → (Nat → Int32) → Prop) (t_f : Nat → Int32) (t_g : Nat → Int32) (x3 : Int32) (t_h : Nat → Int32) (R20 : Int32 → (Nat → Int32) → Prop) : Prop :=
  (((4 : Int32) ≤ x3 → (pX11_numberOf 8 t_h (4 : Int32) (fun r58 => (K r58 t_f t_g t_h)))) ∧ (¬ (4 : Int32) ≤ x3 → (vp_in x3 8 ∧ (vp_in x3 8 ∧ (vp_in (t_g (Int32.toNatClampNeg x3)) 8 ∧ (vp_in (t_f (Int32.toNatClampNeg x3)) 8 ∧ (R20 (x3 + 1) (upd t_h (Int32.toNatClampNeg (t_f (Int32.toNatClampNeg x3))) (t_f (Int32.toNatClampNeg (t_g (Int32.toNatClampNeg x3))))))))))))

def pX11_turnedBy (t_f : Nat → Int32) (t_g : Nat → Int32) (t_h : Nat → Int32) (x1 : Int32) (x2 : Int32) (K : Int32 → (Nat → Int32) → (Nat → Int32) → (Nat → Int32) → Prop) : Prop :=
  (pX11_permutation 8 t_f (4 : Int32) x1 (fun t_f_6 => (pX11_permutation 8 t_g (4 : Int32) x2 (fun t_g_15 => (lpW2 (pX11_turnedBy_20 K t_f_6 t_g_15) (0 : Int32) t_h)))))

def pX11_group_131 (R93 : Int32 → (Nat → Int32) → (Nat → Int32) → (Nat → Int32) → (Nat → Int32) → Prop) (R102 : Int32 → (Nat → Int32) → (Nat → Int32) → (Nat → Int32) → (Nat → Int32) → Prop) (K : Int32 → Int32 → Int32 → (Nat → Int32) → (Nat → Int32) → (Nat → Int32) → (Nat → Int32) → (Nat → Int32) → (Nat → Int32) → Prop) (x3 : Int32) (t_thrown : Int32) (t_n : Int32) (t_members : Nat → Int32) (t_twists : Nat → Int32) (x4 : Int32) (x5 : Int32) (x6 : Int32) (t_f : Nat → Int32) (t_g : Nat → Int32) (t_h : Nat → Int32) (x7 : Int32) (t_table : Nat → Int32) (R131 : Int32 → (Nat → Int32) → Prop) : Prop :=
  ((x3 ≤ x7 → (R102 (x5 + 1) t_f t_g t_h t_table)) ∧ (¬ x3 ≤ x7 → (vp_in x7 8 ∧ ((¬ (t_members (Int32.toNatClampNeg x7)) = x6 → (R131 (x7 + 1) t_table)) ∧ ((t_members (Int32.toNatClampNeg x7)) = x6 → (vp_in (((8 : Int32) * x4) + x5) 64 ∧ (R131 (x7 + 1) (upd t_table (Int32.toNatClampNeg (((8 : Int32) * x4) + x5)) x7))))))))

def pX11_group_102 (R93 : Int32 → (Nat → Int32) → (Nat → Int32) → (Nat → Int32) → (Nat → Int32) → Prop) (K : Int32 → Int32 → Int32 → (Nat → Int32) → (Nat → Int32) → (Nat → Int32) → (Nat → Int32) → (Nat → Int32) → (Nat → Int32) → Prop) (x3 : Int32) (t_thrown : Int32) (t_n : Int32) (t_members : Nat → Int32) (t_twists : Nat → Int32) (x4 : Int32) (x5 : Int32) (t_f : Nat → Int32) (t_g : Nat → Int32) (t_h : Nat → Int32) (t_table : Nat → Int32) (R102 : Int32 → (Nat → Int32) → (Nat → Int32) → (Nat → Int32) → (Nat → Int32) → Prop) : Prop :=
  ((x3 ≤ x5 → (R93 (x4 + 1) t_f t_g t_h t_table)) ∧ (¬ x3 ≤ x5 → (vp_in x4 8 ∧ (vp_in x5 8 ∧ (pX11_turnedBy t_f t_g t_h (t_members (Int32.toNatClampNeg x4)) (t_members (Int32.toNatClampNeg x5)) (fun r123 t_f_123 t_g_123 t_h_123 => (lpW2 (pX11_group_131 R93 R102 K x3 t_thrown t_n t_members t_twists x4 x5 r123 t_f_123 t_g_123 t_h_123) (0 : Int32) t_table)))))))

def pX11_group_93 (R51 : Int32 → Int32 → (Nat → Int32) → Prop) (K : Int32 → Int32 → Int32 → (Nat → Int32) → (Nat → Int32) → (Nat → Int32) → (Nat → Int32) → (Nat → Int32) → (Nat → Int32) → Prop) (x3 : Int32) (t_thrown : Int32) (t_n : Int32) (t_members : Nat → Int32) (t_twists : Nat → Int32) (x4 : Int32) (t_f : Nat → Int32) (t_g : Nat → Int32) (t_h : Nat → Int32) (t_table : Nat → Int32) (R93 : Int32 → (Nat → Int32) → (Nat → Int32) → (Nat → Int32) → (Nat → Int32) → Prop) : Prop :=
  ((x3 ≤ x4 → (K t_n t_thrown t_n t_f t_g t_h t_members t_table t_twists)) ∧ (¬ x3 ≤ x4 → (lpW5 (pX11_group_102 R93 K x3 t_thrown t_n t_members t_twists x4) (0 : Int32) t_f t_g t_h t_table)))

def pX11_group_51 (R23 : Int32 → Int32 → (Nat → Int32) → (Nat → Int32) → (Nat → Int32) → Prop) (K : Int32 → Int32 → Int32 → (Nat → Int32) → (Nat → Int32) → (Nat → Int32) → (Nat → Int32) → (Nat → Int32) → (Nat → Int32) → Prop) (x2 : Int32) (t_thrown : Int32) (t_n : Int32) (t_f : Nat → Int32) (t_g : Nat → Int32) (t_h : Nat → Int32) (t_table : Nat → Int32) (t_twists : Nat → Int32) (x3 : Int32) (x4 : Int32) (t_members : Nat → Int32) (R51 : Int32 → Int32 → (Nat → Int32) → Prop) : Prop :=
  (((24 : Int32) ≤ x4 → (pX11_sized t_n t_twists x3 (fun t_n_87 t_twists_87 => (lpW5 (pX11_group_93 R51 K x3 t_thrown t_n_87 t_members t_twists_87) (0 : Int32) t_f t_g t_h t_table)))) ∧ (¬ (24 : Int32) ≤ x4 → ((¬ ((x2 >>> (x4 &&& 31)) &&& (1 : Int32)) = (1 : Int32) → (R51 x3 (x4 + 1) t_members)) ∧ (((x2 >>> (x4 &&& 31)) &&& (1 : Int32)) = (1 : Int32) → (vp_in x3 8 ∧ (R51 (x3 + 1) (x4 + 1) (upd t_members (Int32.toNatClampNeg x3) x4)))))))

def pX11_group_23 (K : Int32 → Int32 → Int32 → (Nat → Int32) → (Nat → Int32) → (Nat → Int32) → (Nat → Int32) → (Nat → Int32) → (Nat → Int32) → Prop) (x1 : Int32) (t_thrown : Int32) (t_n : Int32) (t_members : Nat → Int32) (t_table : Nat → Int32) (t_twists : Nat → Int32) (x2 : Int32) (x3 : Int32) (t_f : Nat → Int32) (t_g : Nat → Int32) (t_h : Nat → Int32) (R23 : Int32 → Int32 → (Nat → Int32) → (Nat → Int32) → (Nat → Int32) → Prop) : Prop :=
  (((24 : Int32) ≤ x3 → (lpW3 (pX11_group_51 R23 K x2 t_thrown t_n t_f t_g t_h t_table t_twists) (0 : Int32) (0 : Int32) t_members)) ∧ (¬ (24 : Int32) ≤ x3 → (pX11_turnedBy t_f t_g t_h x3 x1 (fun r34 t_f_34 t_g_34 t_h_34 => (R23 (x2 ||| ((1 : Int32) <<< (r34 &&& 31))) (x3 + 1) t_f_34 t_g_34 t_h_34)))))

def pX11_group (t_thrown : Int32) (t_n : Int32) (t_f : Nat → Int32) (t_g : Nat → Int32) (t_h : Nat → Int32) (t_members : Nat → Int32) (t_table : Nat → Int32) (t_twists : Nat → Int32) (x1 : Int32) (K : Int32 → Int32 → Int32 → (Nat → Int32) → (Nat → Int32) → (Nat → Int32) → (Nat → Int32) → (Nat → Int32) → (Nat → Int32) → Prop) : Prop :=
  (pX11_in (Int32.toInt64 x1) (0 : Int64) (23 : Int64) (fun r11 => ((¬ r11 = 0 → (lpW5 (pX11_group_23 K x1 (0 : Int32) t_n t_members t_table t_twists) (0 : Int32) (0 : Int32) t_f t_g t_h)) ∧ (r11 = 0 → (K (-1 : Int32) (0 : Int32) t_n t_f t_g t_h t_members t_table t_twists)))))

def pX11_isKept_25 (t_keptMany : Nat → Int32) (K : Int32 → Prop) : Prop :=
  (zb (0 : Int32) ∧ K (0 : Int32))

def pX11_isKept (t_keptMany : Nat → Int32) (x1 : Int32) (K : Int32 → Prop) : Prop :=
  (pX11_in (Int32.toInt64 x1) (0 : Int64) (3 : Int64) (fun r6 => ((r6 = 0 → (pX11_isKept_25 t_keptMany K)) ∧ (¬ r6 = 0 → (vp_in x1 4 ∧ (((t_keptMany (Int32.toNatClampNeg x1)) ≤ 0 → (pX11_isKept_25 t_keptMany K)) ∧ (¬ (t_keptMany (Int32.toNatClampNeg x1)) ≤ 0 → (zb (1 : Int32) ∧ K (1 : Int32)))))))))

def pX11_keep_31 (t_n : Int32) (t_table : Nat → Int32) (K : Int32 → Int32 → (Nat → Int32) → (Nat → Int32) → Prop) (x1 : Int32) (t_thrown : Int32) (t_keptMany : Nat → Int32) (x2 : Int32) (t_kept : Nat → Int32) (R31 : Int32 → (Nat → Int32) → Prop) : Prop :=
  (((64 : Int32) ≤ x2 → (zb (1 : Int32) ∧ K (1 : Int32) t_thrown t_kept t_keptMany)) ∧ (¬ (64 : Int32) ≤ x2 → (vp_in x2 64 ∧ (vp_in (((64 : Int32) * x1) + x2) 256 ∧ (R31 (x2 + 1) (upd t_kept (Int32.toNatClampNeg (((64 : Int32) * x1) + x2)) (t_table (Int32.toNatClampNeg x2))))))))

def pX11_keep (t_thrown : Int32) (t_n : Int32) (t_kept : Nat → Int32) (t_keptMany : Nat → Int32) (t_table : Nat → Int32) (x1 : Int32) (K : Int32 → Int32 → (Nat → Int32) → (Nat → Int32) → Prop) : Prop :=
  (pX11_in (Int32.toInt64 x1) (0 : Int64) (3 : Int64) (fun r11 => ((¬ r11 = 0 → (vp_in x1 4 ∧ (lpW2 (pX11_keep_31 t_n t_table K x1 (0 : Int32) (upd t_keptMany (Int32.toNatClampNeg x1) t_n)) (0 : Int32) t_kept))) ∧ (r11 = 0 → (zb (0 : Int32) ∧ K (0 : Int32) (0 : Int32) t_kept t_keptMany)))))

def pX11_fetch_27 (t_kept : Nat → Int32) (t_keptMany : Nat → Int32) (K : Int32 → Int32 → Int32 → (Nat → Int32) → (Nat → Int32) → Prop) (x1 : Int32) (t_thrown : Int32) (t_n : Int32) (t_twists : Nat → Int32) (x2 : Int32) (t_table : Nat → Int32) (R27 : Int32 → (Nat → Int32) → Prop) : Prop :=
  (((64 : Int32) ≤ x2 → (K t_n t_thrown t_n t_table t_twists)) ∧ (¬ (64 : Int32) ≤ x2 → (vp_in (((64 : Int32) * x1) + x2) 256 ∧ (vp_in x2 64 ∧ (R27 (x2 + 1) (upd t_table (Int32.toNatClampNeg x2) (t_kept (Int32.toNatClampNeg (((64 : Int32) * x1) + x2)))))))))

def pX11_fetch (t_thrown : Int32) (t_n : Int32) (t_kept : Nat → Int32) (t_keptMany : Nat → Int32) (t_table : Nat → Int32) (t_twists : Nat → Int32) (x1 : Int32) (K : Int32 → Int32 → Int32 → (Nat → Int32) → (Nat → Int32) → Prop) : Prop :=
  (pX11_isKept t_keptMany x1 (fun r7 => ((¬ r7 = 0 → (vp_in x1 4 ∧ (pX11_sized t_n t_twists (t_keptMany (Int32.toNatClampNeg x1)) (fun t_n_22 t_twists_22 => (lpW2 (pX11_fetch_27 t_kept t_keptMany K x1 (0 : Int32) t_n_22 t_twists_22) (0 : Int32) t_table))))) ∧ (r7 = 0 → (K (-1 : Int32) (0 : Int32) t_n t_table t_twists)))))

def pX11_count (t_thrown : Int32) (t_n : Int32) (t_modulus : Int32) (t_rows : Int32) (t_strands : Int32) (t_letters : Int32) (x1 : Int32) (K : Int32 → Int32 → Prop) : Prop :=
  ((x1 = 0 → (K t_n (0 : Int32))) ∧ (x1 = 1 → (K t_modulus (0 : Int32))) ∧ (x1 = 2 → (K t_strands (0 : Int32))) ∧ (x1 = 3 → (K t_letters (0 : Int32))) ∧ (x1 = 4 → (K t_rows (0 : Int32))) ∧ (¬ x1 = 0 → ¬ x1 = 1 → ¬ x1 = 2 → ¬ x1 = 3 → ¬ x1 = 4 → (K (-1 : Int32) (0 : Int32))))

def pX11_unevenRow_14 (t_n : Int32) (t_table : Nat → Int32) (R2 : Int32 → Prop) (K : Int32 → Prop) (x1 : Int32) (x2 : Int32) (x3 : Int32) (R14 : Int32 → Int32 → Prop) : Prop :=
  ((t_n ≤ x3 → ((x2 = (((1 : Int32) <<< (t_n &&& 31)) - (1 : Int32)) → (R2 (x1 + 1))) ∧ (¬ x2 = (((1 : Int32) <<< (t_n &&& 31)) - (1 : Int32)) → (K x1)))) ∧ (¬ t_n ≤ x3 → (pX11_by t_table x1 x3 (fun r27 => (R14 (x2 ||| ((1 : Int32) <<< (r27 &&& 31))) (x3 + 1))))))

def pX11_unevenRow_2 (t_n : Int32) (t_table : Nat → Int32) (K : Int32 → Prop) (x1 : Int32) (R2 : Int32 → Prop) : Prop :=
  ((t_n ≤ x1 → (K (-1 : Int32))) ∧ (¬ t_n ≤ x1 → (lpW2 (pX11_unevenRow_14 t_n t_table R2 K x1) (0 : Int32) (0 : Int32))))

def pX11_unevenRow (t_n : Int32) (t_table : Nat → Int32) (K : Int32 → Prop) : Prop :=
  (lpW1 (pX11_unevenRow_2 t_n t_table K) (0 : Int32))

def pX11_unruly_22 (t_n : Int32) (t_table : Nat → Int32) (R2 : Int32 → Prop) (R12 : Int32 → Prop) (K : Int32 → Prop) (x1 : Int32) (x2 : Int32) (x3 : Int32) (R22 : Int32 → Prop) : Prop :=
  ((t_n ≤ x3 → (R12 (x2 + 1))) ∧ (¬ t_n ≤ x3 → (pX11_by t_table x2 x3 (fun r35 => (pX11_by t_table x1 r35 (fun r38 => (pX11_by t_table x1 x2 (fun r45 => (pX11_by t_table x1 x3 (fun r51 => (pX11_by t_table r45 r51 (fun r54 => ((r38 = r54 → (R22 (x3 + 1))) ∧ (¬ r38 = r54 → (K ((((x1 * (8 : Int32)) + x2) * (8 : Int32)) + x3))))))))))))))))

def pX11_unruly_12 (t_n : Int32) (t_table : Nat → Int32) (R2 : Int32 → Prop) (K : Int32 → Prop) (x1 : Int32) (x2 : Int32) (R12 : Int32 → Prop) : Prop :=
  ((t_n ≤ x2 → (R2 (x1 + 1))) ∧ (¬ t_n ≤ x2 → (lpW1 (pX11_unruly_22 t_n t_table R2 R12 K x1 x2) (0 : Int32))))

def pX11_unruly_2 (t_n : Int32) (t_table : Nat → Int32) (K : Int32 → Prop) (x1 : Int32) (R2 : Int32 → Prop) : Prop :=
  ((t_n ≤ x1 → (K (-1 : Int32))) ∧ (¬ t_n ≤ x1 → (lpW1 (pX11_unruly_12 t_n t_table R2 K x1) (0 : Int32))))

def pX11_unruly (t_n : Int32) (t_table : Nat → Int32) (K : Int32 → Prop) : Prop :=
  (lpW1 (pX11_unruly_2 t_n t_table K) (0 : Int32))

def pX11_isRack_18 (t_n : Int32) (t_table : Nat → Int32) (K : Int32 → Prop) : Prop :=
  (zb (0 : Int32) ∧ K (0 : Int32))

def pX11_isRack (t_n : Int32) (t_table : Nat → Int32) (K : Int32 → Prop) : Prop :=
  (pX11_unevenRow t_n t_table (fun r1 => ((0 ≤ r1 → (pX11_isRack_18 t_n t_table K)) ∧ (¬ 0 ≤ r1 → (pX11_unruly t_n t_table (fun r8 => ((0 ≤ r8 → (pX11_isRack_18 t_n t_table K)) ∧ (¬ 0 ≤ r8 → (zb (1 : Int32) ∧ K (1 : Int32))))))))))

def pX11_tells (t_rows : Int32) (t_row : Nat → Int32) (x1 : Int32) (K : Int32 → (Nat → Int32) → Prop) : Prop :=
  (¬ (64 : Int32) = 0 ∧ (vp_in (0 : Int32) 8 ∧ (¬ (8 : Int32) = 0 ∧ (¬ (8 : Int32) = 0 ∧ (vp_in (1 : Int32) 8 ∧ (¬ (8 : Int32) = 0 ∧ (vp_in (2 : Int32) 8 ∧ (K (3 : Int32) (upd (upd (upd t_row (Int32.toNatClampNeg (0 : Int32)) (x1 / (64 : Int32))) (Int32.toNatClampNeg (1 : Int32)) ((x1 / (8 : Int32)) - (x1 / (8 : Int32)) / (8 : Int32) * (8 : Int32))) (Int32.toNatClampNeg (2 : Int32)) (x1 - x1 / (8 : Int32) * (8 : Int32)))))))))))

def pX11_wrong (t_thrown : Int32) (t_n : Int32) (t_rows : Int32) (t_row : Nat → Int32) (t_table : Nat → Int32) (K : Int32 → Int32 → Int32 → (Nat → Int32) → Prop) : Prop :=
  (pX11_unevenRow t_n t_table (fun r6 => ((r6 < 0 → (pX11_unruly t_n t_table (fun r29 => ((r29 < 0 → (K (0 : Int32) (0 : Int32) t_rows t_row)) ∧ (¬ r29 < 0 → (pX11_tells t_rows t_row r29 (fun t_rows_39 t_row_39 => (K (2 : Int32) (0 : Int32) t_rows_39 t_row_39)))))))) ∧ (¬ r6 < 0 → (vp_in (0 : Int32) 8 ∧ (K (1 : Int32) (0 : Int32) (1 : Int32) (upd t_row (Int32.toNatClampNeg (0 : Int32)) r6)))))))

def pX11_numbered_37 (N_p1 : Nat) (t_n : Int32) (R4 : Int32 → Int32 → (Nat → Int32) → Prop) (K : Int32 → (Nat → Int32) → (Nat → Int32) → Prop) (x2 : Int32) (t_h : Nat → Int32) (x3 : Int32) (p1 : Nat → Int32) (R37 : Int32 → (Nat → Int32) → Prop) : Prop :=
  ((t_n ≤ x3 → (K x2 t_h p1)) ∧ (¬ t_n ≤ x3 → (vp_in x3 N_p1 ∧ (vp_in (p1 (Int32.toNatClampNeg x3)) 8 ∧ (vp_in x3 N_p1 ∧ (R37 (x3 + 1) (upd p1 (Int32.toNatClampNeg x3) (t_h (Int32.toNatClampNeg (p1 (Int32.toNatClampNeg x3)))))))))))

def pX11_numbered_4 (N_p1 : Nat) (t_n : Int32) (K : Int32 → (Nat → Int32) → (Nat → Int32) → Prop) (p1 : Nat → Int32) (x2 : Int32) (x3 : Int32) (t_h : Nat → Int32) (R4 : Int32 → Int32 → (Nat → Int32) → Prop) : Prop :=
  ((t_n ≤ x3 → (lpW2 (pX11_numbered_37 N_p1 t_n R4 K x2 t_h) (0 : Int32) p1)) ∧ (¬ t_n ≤ x3 → (vp_in x3 N_p1 ∧ ((¬ (p1 (Int32.toNatClampNeg x3)) = x3 → (R4 x2 (x3 + 1) t_h)) ∧ ((p1 (Int32.toNatClampNeg x3)) = x3 → (vp_in x3 8 ∧ (R4 (x2 + 1) (x3 + 1) (upd t_h (Int32.toNatClampNeg x3) x2))))))))

def pX11_numbered (N_p1 : Nat) (t_n : Int32) (t_h : Nat → Int32) (p1 : Nat → Int32) (K : Int32 → (Nat → Int32) → (Nat → Int32) → Prop) : Prop :=
  (lpW3 (pX11_numbered_4 N_p1 t_n K p1) (0 : Int32) (0 : Int32) t_h)

def pX11_findsOrbits_45 (t_n : Int32) (t_table : Nat → Int32) (R25 : Int32 → (Nat → Int32) → Prop) (R35 : Int32 → (Nat → Int32) → Prop) (K : Int32 → (Nat → Int32) → (Nat → Int32) → Prop) (t_h : Nat → Int32) (x1 : Int32) (x2 : Int32) (x3 : Int32) (t_orbit : Nat → Int32) (R45 : Int32 → (Nat → Int32) → Prop) : Prop :=
  ((t_n ≤ x3 → (R35 (x2 + 1) t_orbit)) ∧ (¬ t_n ≤ x3 → (vp_in x3 8 ∧ (pX11_by t_table x2 x3 (fun r66 => (vp_in r66 8 ∧ (vp_in x3 8 ∧ (pX11_by t_table x2 x3 (fun r90 => (vp_in r90 8 ∧ (R45 (x3 + 1) (upd (upd t_orbit (Int32.toNatClampNeg x3) (if (t_orbit (Int32.toNatClampNeg r66)) < (t_orbit (Int32.toNatClampNeg x3)) then (t_orbit (Int32.toNatClampNeg r66)) else (t_orbit (Int32.toNatClampNeg x3)))) (Int32.toNatClampNeg r90) (if (t_orbit (Int32.toNatClampNeg r66)) < (t_orbit (Int32.toNatClampNeg x3)) then (t_orbit (Int32.toNatClampNeg r66)) else (t_orbit (Int32.toNatClampNeg x3)))))))))))))))

def pX11_findsOrbits_35 (t_n : Int32) (t_table : Nat → Int32) (R25 : Int32 → (Nat → Int32) → Prop) (K : Int32 → (Nat → Int32) → (Nat → Int32) → Prop) (t_h : Nat → Int32) (x1 : Int32) (x2 : Int32) (t_orbit : Nat → Int32) (R35 : Int32 → (Nat → Int32) → Prop) : Prop :=
  ((t_n ≤ x2 → (R25 (x1 + 1) t_orbit)) ∧ (¬ t_n ≤ x2 → (lpW2 (pX11_findsOrbits_45 t_n t_table R25 R35 K t_h x1 x2) (0 : Int32) t_orbit)))

def pX11_findsOrbits_25 (t_n : Int32) (t_table : Nat → Int32) (R2 : Int32 → (Nat → Int32) → Prop) (K : Int32 → (Nat → Int32) → (Nat → Int32) → Prop) (t_h : Nat → Int32) (x1 : Int32) (t_orbit : Nat → Int32) (R25 : Int32 → (Nat → Int32) → Prop) : Prop :=
  ((t_n ≤ x1 → (pX11_numbered 8 t_n t_h t_orbit (fun r119 t_h_119 t_orbit_119 => (K r119 t_h_119 t_orbit_119)))) ∧ (¬ t_n ≤ x1 → (lpW2 (pX11_findsOrbits_35 t_n t_table R25 K t_h x1) (0 : Int32) t_orbit)))

def pX11_findsOrbits_2 (t_n : Int32) (t_table : Nat → Int32) (K : Int32 → (Nat → Int32) → (Nat → Int32) → Prop) (t_h : Nat → Int32) (x1 : Int32) (t_orbit : Nat → Int32) (R2 : Int32 → (Nat → Int32) → Prop) : Prop :=
  ((t_n ≤ x1 → (lpW2 (pX11_findsOrbits_25 t_n t_table R2 K t_h) (0 : Int32) t_orbit)) ∧ (¬ t_n ≤ x1 → (vp_in x1 8 ∧ (R2 (x1 + 1) (upd t_orbit (Int32.toNatClampNeg x1) x1)))))

def pX11_findsOrbits (t_n : Int32) (t_h : Nat → Int32) (t_orbit : Nat → Int32) (t_table : Nat → Int32) (K : Int32 → (Nat → Int32) → (Nat → Int32) → Prop) : Prop :=
  (lpW2 (pX11_findsOrbits_2 t_n t_table K t_h) (0 : Int32) t_orbit)

def pX11_sameRows_39 (t_n : Int32) (t_table : Nat → Int32) (R5 : Int32 → Int32 → Prop) (K : Int32 → Prop) (x1 : Int32) (x2 : Int32) (x4 : Int32) : Prop :=
  (R5 (0 : Int32) (x4 + 1))

def pX11_sameRows_5 (t_n : Int32) (t_table : Nat → Int32) (K : Int32 → Prop) (x1 : Int32) (x2 : Int32) (x3 : Int32) (x4 : Int32) (R5 : Int32 → Int32 → Prop) : Prop :=
  ((t_n ≤ x4 → (zb x3 ∧ K x3)) ∧ (¬ t_n ≤ x4 → ((x3 = 0 → (pX11_sameRows_39 t_n t_table R5 K x1 x2 x4)) ∧ (¬ x3 = 0 → (pX11_by t_table x1 x4 (fun r22 => (pX11_by t_table x2 x4 (fun r29 => ((¬ r22 = r29 → (pX11_sameRows_39 t_n t_table R5 K x1 x2 x4)) ∧ (r22 = r29 → (R5 (1 : Int32) (x4 + 1))))))))))))

def pX11_sameRows (t_n : Int32) (t_table : Nat → Int32) (x1 : Int32) (x2 : Int32) (K : Int32 → Prop) : Prop :=
  (lpW2 (pX11_sameRows_5 t_n t_table K x1 x2) (1 : Int32) (0 : Int32))

def pX11_is_251 (t_n : Int32) (t_table : Nat → Int32) (K : Int32 → Int32 → (Nat → Int32) → (Nat → Int32) → Prop) (s0 : Int32) (t_thrown : Int32) (t_h : Nat → Int32) (t_orbit : Nat → Int32) : Prop :=
  ((s0 = 0 → (K (0 : Int32) t_thrown t_h t_orbit)) ∧ (¬ s0 = 0 → (K (1 : Int32) t_thrown t_h t_orbit)))

def pX11_is_210 (t_n : Int32) (t_table : Nat → Int32) (K : Int32 → Int32 → (Nat → Int32) → (Nat → Int32) → Prop) (x1 : Int32) (x2 : Int32) (x3 : Int32) (x4 : Int32) (x5 : Int32) (s0 : Int32) (t_thrown : Int32) (t_h : Nat → Int32) (t_orbit : Nat → Int32) : Prop :=
  ((¬ x1 = 0 → ((¬ x1 = (1 : Int32) → ((¬ x1 = (2 : Int32) → ((¬ x1 = (3 : Int32) → (pX11_is_251 t_n t_table K x5 t_thrown t_h t_orbit)) ∧ (x1 = (3 : Int32) → (pX11_is_251 t_n t_table K x4 t_thrown t_h t_orbit)))) ∧ (x1 = (2 : Int32) → (pX11_is_251 t_n t_table K s0 t_thrown t_h t_orbit)))) ∧ (x1 = (1 : Int32) → (pX11_is_251 t_n t_table K x3 t_thrown t_h t_orbit)))) ∧ (x1 = 0 → (pX11_is_251 t_n t_table K x2 t_thrown t_h t_orbit)))

def pX11_is_188 (t_n : Int32) (t_table : Nat → Int32) (R39 : Int32 → Int32 → Int32 → Int32 → Int32 → Prop) (K : Int32 → Int32 → (Nat → Int32) → (Nat → Int32) → Prop) (x1 : Int32) (t_thrown : Int32) (t_h : Nat → Int32) (t_orbit : Nat → Int32) (x2 : Int32) (x3 : Int32) (x4 : Int32) (x6 : Int32) : Prop :=
  (R39 x2 x3 x4 (0 : Int32) (x6 + 1))

def pX11_is_157 (t_n : Int32) (t_table : Nat → Int32) (R39 : Int32 → Int32 → Int32 → Int32 → Int32 → Prop) (R77 : Int32 → Int32 → Int32 → Int32 → Prop) (K : Int32 → Int32 → (Nat → Int32) → (Nat → Int32) → Prop) (x1 : Int32) (t_thrown : Int32) (t_h : Nat → Int32) (t_orbit : Nat → Int32) (x2 : Int32) (x5 : Int32) (x6 : Int32) (x3 : Int32) (x7 : Int32) (x8 : Int32) : Prop :=
  (R77 x3 (0 : Int32) x7 (x8 + 1))

def pX11_is_153 (t_n : Int32) (t_table : Nat → Int32) (R39 : Int32 → Int32 → Int32 → Int32 → Int32 → Prop) (R77 : Int32 → Int32 → Int32 → Int32 → Prop) (K : Int32 → Int32 → (Nat → Int32) → (Nat → Int32) → Prop) (x1 : Int32) (t_thrown : Int32) (t_h : Nat → Int32) (t_orbit : Nat → Int32) (x2 : Int32) (x5 : Int32) (x6 : Int32) (x3 : Int32) (x7 : Int32) (x8 : Int32) : Prop :=
  (R77 x3 (1 : Int32) x7 (x8 + 1))

def pX11_is_114 (t_n : Int32) (t_table : Nat → Int32) (R39 : Int32 → Int32 → Int32 → Int32 → Int32 → Prop) (R77 : Int32 → Int32 → Int32 → Int32 → Prop) (K : Int32 → Int32 → (Nat → Int32) → (Nat → Int32) → Prop) (x1 : Int32) (t_thrown : Int32) (t_h : Nat → Int32) (t_orbit : Nat → Int32) (x2 : Int32) (x5 : Int32) (x6 : Int32) (x4 : Int32) (x7 : Int32) (x8 : Int32) (s0 : Int32) : Prop :=
  (pX11_by t_table x8 x6 (fun r123 => ((x4 = 0 → (pX11_is_157 t_n t_table R39 R77 K x1 t_thrown t_h t_orbit x2 x5 x6 s0 (x7 ||| ((1 : Int32) <<< (r123 &&& 31))) x8)) ∧ (¬ x4 = 0 → ((x8 ≤ x6 → (pX11_is_153 t_n t_table R39 R77 K x1 t_thrown t_h t_orbit x2 x5 x6 s0 (x7 ||| ((1 : Int32) <<< (r123 &&& 31))) x8)) ∧ (¬ x8 ≤ x6 → (pX11_sameRows t_n t_table x6 x8 (fun r147 => ((¬ r147 = 0 → (pX11_is_157 t_n t_table R39 R77 K x1 t_thrown t_h t_orbit x2 x5 x6 s0 (x7 ||| ((1 : Int32) <<< (r123 &&& 31))) x8)) ∧ (r147 = 0 → (pX11_is_153 t_n t_table R39 R77 K x1 t_thrown t_h t_orbit x2 x5 x6 s0 (x7 ||| ((1 : Int32) <<< (r123 &&& 31))) x8)))))))))))

def pX11_is_113 (t_n : Int32) (t_table : Nat → Int32) (R39 : Int32 → Int32 → Int32 → Int32 → Int32 → Prop) (R77 : Int32 → Int32 → Int32 → Int32 → Prop) (K : Int32 → Int32 → (Nat → Int32) → (Nat → Int32) → Prop) (x1 : Int32) (t_thrown : Int32) (t_h : Nat → Int32) (t_orbit : Nat → Int32) (x2 : Int32) (x5 : Int32) (x6 : Int32) (x4 : Int32) (x7 : Int32) (x8 : Int32) : Prop :=
  (pX11_is_114 t_n t_table R39 R77 K x1 t_thrown t_h t_orbit x2 x5 x6 x4 x7 x8 (0 : Int32))

def pX11_is_77 (t_n : Int32) (t_table : Nat → Int32) (R39 : Int32 → Int32 → Int32 → Int32 → Int32 → Prop) (K : Int32 → Int32 → (Nat → Int32) → (Nat → Int32) → Prop) (x1 : Int32) (t_thrown : Int32) (t_h : Nat → Int32) (t_orbit : Nat → Int32) (x2 : Int32) (x5 : Int32) (x6 : Int32) (x3 : Int32) (x4 : Int32) (x7 : Int32) (x8 : Int32) (R77 : Int32 → Int32 → Int32 → Int32 → Prop) : Prop :=
  ((t_n ≤ x8 → ((x5 = 0 → (pX11_is_188 t_n t_table R39 K x1 t_thrown t_h t_orbit x2 x3 x4 x6)) ∧ (¬ x5 = 0 → ((¬ x7 = (((1 : Int32) <<< (t_n &&& 31)) - (1 : Int32)) → (pX11_is_188 t_n t_table R39 K x1 t_thrown t_h t_orbit x2 x3 x4 x6)) ∧ (x7 = (((1 : Int32) <<< (t_n &&& 31)) - (1 : Int32)) → (R39 x2 x3 x4 (1 : Int32) (x6 + 1))))))) ∧ (¬ t_n ≤ x8 → ((x3 = 0 → (pX11_is_113 t_n t_table R39 R77 K x1 t_thrown t_h t_orbit x2 x5 x6 x4 x7 x8)) ∧ (¬ x3 = 0 → (pX11_by t_table x6 x8 (fun r98 => (pX11_by t_table x6 r98 (fun r101 => ((¬ r101 = x8 → (pX11_is_113 t_n t_table R39 R77 K x1 t_thrown t_h t_orbit x2 x5 x6 x4 x7 x8)) ∧ (r101 = x8 → (pX11_is_114 t_n t_table R39 R77 K x1 t_thrown t_h t_orbit x2 x5 x6 x4 x7 x8 (1 : Int32))))))))))))

def pX11_is_70 (t_n : Int32) (t_table : Nat → Int32) (R39 : Int32 → Int32 → Int32 → Int32 → Int32 → Prop) (K : Int32 → Int32 → (Nat → Int32) → (Nat → Int32) → Prop) (x1 : Int32) (t_thrown : Int32) (t_h : Nat → Int32) (t_orbit : Nat → Int32) (x3 : Int32) (x4 : Int32) (x5 : Int32) (x6 : Int32) (s0 : Int32) : Prop :=
  (lpW4 (pX11_is_77 t_n t_table R39 K x1 t_thrown t_h t_orbit s0 x5 x6) x3 x4 (0 : Int32) (0 : Int32))

def pX11_is_69 (t_n : Int32) (t_table : Nat → Int32) (R39 : Int32 → Int32 → Int32 → Int32 → Int32 → Prop) (K : Int32 → Int32 → (Nat → Int32) → (Nat → Int32) → Prop) (x1 : Int32) (t_thrown : Int32) (t_h : Nat → Int32) (t_orbit : Nat → Int32) (x3 : Int32) (x4 : Int32) (x5 : Int32) (x6 : Int32) : Prop :=
  (pX11_is_70 t_n t_table R39 K x1 t_thrown t_h t_orbit x3 x4 x5 x6 (0 : Int32))

def pX11_is_39 (t_n : Int32) (t_table : Nat → Int32) (K : Int32 → Int32 → (Nat → Int32) → (Nat → Int32) → Prop) (x1 : Int32) (t_thrown : Int32) (t_h : Nat → Int32) (t_orbit : Nat → Int32) (x2 : Int32) (x3 : Int32) (x4 : Int32) (x5 : Int32) (x6 : Int32) (R39 : Int32 → Int32 → Int32 → Int32 → Int32 → Prop) : Prop :=
  ((t_n ≤ x6 → (pX11_findsOrbits t_n t_h t_orbit t_table (fun r198 t_h_198 t_orbit_198 => ((¬ r198 = (1 : Int32) → (pX11_is_210 t_n t_table K x1 x2 x3 x4 x5 (0 : Int32) t_thrown t_h_198 t_orbit_198)) ∧ (r198 = (1 : Int32) → (pX11_is_210 t_n t_table K x1 x2 x3 x4 x5 (1 : Int32) t_thrown t_h_198 t_orbit_198)))))) ∧ (¬ t_n ≤ x6 → ((x2 = 0 → (pX11_is_69 t_n t_table R39 K x1 t_thrown t_h t_orbit x3 x4 x5 x6)) ∧ (¬ x2 = 0 → (pX11_by t_table x6 x6 (fun r57 => ((¬ r57 = x6 → (pX11_is_69 t_n t_table R39 K x1 t_thrown t_h t_orbit x3 x4 x5 x6)) ∧ (r57 = x6 → (pX11_is_70 t_n t_table R39 K x1 t_thrown t_h t_orbit x3 x4 x5 x6 (1 : Int32))))))))))

def pX11_is (t_thrown : Int32) (t_n : Int32) (t_h : Nat → Int32) (t_orbit : Nat → Int32) (t_table : Nat → Int32) (x1 : Int32) (K : Int32 → Int32 → (Nat → Int32) → (Nat → Int32) → Prop) : Prop :=
  (pX11_in (Int32.toInt64 x1) (0 : Int64) (4 : Int64) (fun r11 => ((r11 = 0 → (K (-1 : Int32) (0 : Int32) t_h t_orbit)) ∧ (¬ r11 = 0 → (pX11_isRack t_n t_table (fun r18 => ((¬ r18 = 0 → (lpW5 (pX11_is_39 t_n t_table K x1 (0 : Int32) t_h t_orbit) (1 : Int32) (1 : Int32) (1 : Int32) (1 : Int32) (0 : Int32))) ∧ (r18 = 0 → (K (-1 : Int32) (0 : Int32) t_h t_orbit)))))))))

def pX11_orbits_29 (t_n : Int32) (t_table : Nat → Int32) (K : Int32 → Int32 → Int32 → (Nat → Int32) → (Nat → Int32) → (Nat → Int32) → Prop) (x1 : Int32) (t_thrown : Int32) (t_rows : Int32) (t_h : Nat → Int32) (t_orbit : Nat → Int32) (x2 : Int32) (t_row : Nat → Int32) (R29 : Int32 → (Nat → Int32) → Prop) : Prop :=
  ((t_n ≤ x2 → (K x1 t_thrown t_rows t_h t_orbit t_row)) ∧ (¬ t_n ≤ x2 → (vp_in x2 8 ∧ (vp_in x2 8 ∧ (R29 (x2 + 1) (upd t_row (Int32.toNatClampNeg x2) (t_orbit (Int32.toNatClampNeg x2))))))))

def pX11_orbits (t_thrown : Int32) (t_n : Int32) (t_rows : Int32) (t_h : Nat → Int32) (t_orbit : Nat → Int32) (t_row : Nat → Int32) (t_table : Nat → Int32) (K : Int32 → Int32 → Int32 → (Nat → Int32) → (Nat → Int32) → (Nat → Int32) → Prop) : Prop :=
  (pX11_isRack t_n t_table (fun r6 => ((¬ r6 = 0 → (pX11_findsOrbits t_n t_h t_orbit t_table (fun r15 t_h_15 t_orbit_15 => (lpW2 (pX11_orbits_29 t_n t_table K r15 (0 : Int32) t_n t_h_15 t_orbit_15) (0 : Int32) t_row)))) ∧ (r6 = 0 → (K (-1 : Int32) (0 : Int32) t_rows t_h t_orbit t_row)))))

def pX11_moves_97 (t_n : Int32) (t_table : Nat → Int32) (R60 : Int32 → Int32 → (Nat → Int32) → (Nat → Int32) → (Nat → Int32) → (Nat → Int32) → Prop) (R85 : Int32 → Int32 → (Nat → Int32) → (Nat → Int32) → (Nat → Int32) → Prop) (K : Int32 → Int32 → (Nat → Int32) → (Nat → Int32) → (Nat → Int32) → (Nat → Int32) → Prop) (t_thrown : Int32) (x3 : Int32) (t_f : Nat → Int32) (x2 : Int32) (x4 : Int32) (t_met : Nat → Int32) (t_queue : Nat → Int32) (x5 : Int32) (t_g : Nat → Int32) (R97 : Int32 → (Nat → Int32) → Prop) : Prop :=
  ((t_n ≤ x5 → (pX11_numberOf 8 t_g t_n (fun r140 => (vp_in r140 40320 ∧ ((¬ (t_met (Int32.toNatClampNeg r140)) = 0 → (R85 x2 (x4 + 1) t_g t_met t_queue)) ∧ ((t_met (Int32.toNatClampNeg r140)) = 0 → (vp_in r140 40320 ∧ (vp_in x2 40320 ∧ (R85 (x2 + 1) (x4 + 1) t_g (upd t_met (Int32.toNatClampNeg r140) (vp_nar .boolean (1 : Int32))) (upd t_queue (Int32.toNatClampNeg x2) r140)))))))))) ∧ (¬ t_n ≤ x5 → (vp_in x5 8 ∧ (pX11_by t_table x4 (t_f (Int32.toNatClampNeg x5)) (fun r122 => (vp_in x5 8 ∧ (R97 (x5 + 1) (upd t_g (Int32.toNatClampNeg x5) r122))))))))

def pX11_moves_85 (t_n : Int32) (t_table : Nat → Int32) (R60 : Int32 → Int32 → (Nat → Int32) → (Nat → Int32) → (Nat → Int32) → (Nat → Int32) → Prop) (K : Int32 → Int32 → (Nat → Int32) → (Nat → Int32) → (Nat → Int32) → (Nat → Int32) → Prop) (t_thrown : Int32) (x3 : Int32) (t_f : Nat → Int32) (x2 : Int32) (x4 : Int32) (t_g : Nat → Int32) (t_met : Nat → Int32) (t_queue : Nat → Int32) (R85 : Int32 → Int32 → (Nat → Int32) → (Nat → Int32) → (Nat → Int32) → Prop) : Prop :=
  ((t_n ≤ x4 → (R60 x2 (x3 + 1) t_f t_g t_met t_queue)) ∧ (¬ t_n ≤ x4 → (lpW2 (pX11_moves_97 t_n t_table R60 R85 K t_thrown x3 t_f x2 x4 t_met t_queue) (0 : Int32) t_g)))

def pX11_moves_60 (t_n : Int32) (t_table : Nat → Int32) (R24 : Int32 → (Nat → Int32) → Prop) (K : Int32 → Int32 → (Nat → Int32) → (Nat → Int32) → (Nat → Int32) → (Nat → Int32) → Prop) (t_thrown : Int32) (x2 : Int32) (x3 : Int32) (t_f : Nat → Int32) (t_g : Nat → Int32) (t_met : Nat → Int32) (t_queue : Nat → Int32) (R60 : Int32 → Int32 → (Nat → Int32) → (Nat → Int32) → (Nat → Int32) → (Nat → Int32) → Prop) : Prop :=
  ((x2 ≤ x3 → (K x2 t_thrown t_f t_g t_met t_queue)) ∧ (¬ x2 ≤ x3 → (vp_in x3 40320 ∧ (pX11_permutation 8 t_f t_n (t_queue (Int32.toNatClampNeg x3)) (fun t_f_79 => (lpW5 (pX11_moves_85 t_n t_table R60 K t_thrown x3 t_f_79) x2 (0 : Int32) t_g t_met t_queue))))))

def pX11_moves_24 (t_n : Int32) (t_table : Nat → Int32) (K : Int32 → Int32 → (Nat → Int32) → (Nat → Int32) → (Nat → Int32) → (Nat → Int32) → Prop) (x1 : Int32) (t_thrown : Int32) (t_f : Nat → Int32) (t_g : Nat → Int32) (t_queue : Nat → Int32) (x2 : Int32) (t_met : Nat → Int32) (R24 : Int32 → (Nat → Int32) → Prop) : Prop :=
  ((x1 ≤ x2 → (vp_in (0 : Int32) 40320 ∧ (vp_in (0 : Int32) 40320 ∧ (lpW6 (pX11_moves_60 t_n t_table R24 K t_thrown) (1 : Int32) (0 : Int32) t_f t_g (upd t_met (Int32.toNatClampNeg (0 : Int32)) (vp_nar .boolean (1 : Int32))) (upd t_queue (Int32.toNatClampNeg (0 : Int32)) (0 : Int32)))))) ∧ (¬ x1 ≤ x2 → (vp_in x2 40320 ∧ (R24 (x2 + 1) (upd t_met (Int32.toNatClampNeg x2) (vp_nar .boolean (0 : Int32)))))))

def pX11_moves (t_thrown : Int32) (t_n : Int32) (t_f : Nat → Int32) (t_g : Nat → Int32) (t_met : Nat → Int32) (t_queue : Nat → Int32) (t_table : Nat → Int32) (K : Int32 → Int32 → (Nat → Int32) → (Nat → Int32) → (Nat → Int32) → (Nat → Int32) → Prop) : Prop :=
  (pX11_isRack t_n t_table (fun r6 => ((¬ r6 = 0 → (pX11_factorial 10 t_n (fun r18 => (lpW2 (pX11_moves_24 t_n t_table K r18 (0 : Int32) t_f t_g t_queue) (0 : Int32) t_met)))) ∧ (r6 = 0 → (K (-1 : Int32) (0 : Int32) t_f t_g t_met t_queue)))))

def pX11_makes_13 (N_p1 : Nat) (t_n : Int32) (t_f : Nat → Int32) (t_table : Nat → Int32) (p1 : Nat → Int32) (R2 : Int32 → Prop) (K : Int32 → Prop) (x2 : Int32) (x3 : Int32) (x4 : Int32) (R13 : Int32 → Prop) : Prop :=
  ((t_n ≤ x4 → (R2 (x3 + 1))) ∧ (¬ t_n ≤ x4 → (vp_in x3 8 ∧ (vp_in x4 8 ∧ (vp_in ((x2 + ((8 : Int32) * (t_f (Int32.toNatClampNeg x3)))) + (t_f (Int32.toNatClampNeg x4))) N_p1 ∧ (pX11_by t_table x3 x4 (fun r51 => (vp_in r51 8 ∧ (((p1 (Int32.toNatClampNeg ((x2 + ((8 : Int32) * (t_f (Int32.toNatClampNeg x3)))) + (t_f (Int32.toNatClampNeg x4))))) = (t_f (Int32.toNatClampNeg r51)) → (R13 (x4 + 1))) ∧ (¬ (p1 (Int32.toNatClampNeg ((x2 + ((8 : Int32) * (t_f (Int32.toNatClampNeg x3)))) + (t_f (Int32.toNatClampNeg x4))))) = (t_f (Int32.toNatClampNeg r51)) → (zb (0 : Int32) ∧ K (0 : Int32))))))))))))

def pX11_makes_2 (N_p1 : Nat) (t_n : Int32) (t_f : Nat → Int32) (t_table : Nat → Int32) (p1 : Nat → Int32) (K : Int32 → Prop) (x2 : Int32) (x3 : Int32) (R2 : Int32 → Prop) : Prop :=
  ((t_n ≤ x3 → (zb (1 : Int32) ∧ K (1 : Int32))) ∧ (¬ t_n ≤ x3 → (lpW1 (pX11_makes_13 N_p1 t_n t_f t_table p1 R2 K x2 x3) (0 : Int32))))

def pX11_makes (N_p1 : Nat) (t_n : Int32) (t_f : Nat → Int32) (t_table : Nat → Int32) (p1 : Nat → Int32) (x2 : Int32) (K : Int32 → Prop) : Prop :=
  (lpW1 (pX11_makes_2 N_p1 t_n t_f t_table p1 K x2) (0 : Int32))

def pX11_keepers_9 (t_n : Int32) (t_table : Nat → Int32) (K : Int32 → Int32 → (Nat → Int32) → Prop) (t_thrown : Int32) (x1 : Int32) (x2 : Int32) (t_f : Nat → Int32) (R9 : Int32 → Int32 → (Nat → Int32) → Prop) : Prop :=
  (pX11_factorial 10 t_n (fun r14 => ((r14 ≤ x2 → (K x1 t_thrown t_f)) ∧ (¬ r14 ≤ x2 → (pX11_permutation 8 t_f t_n x2 (fun t_f_29 => (pX11_makes 64 t_n t_f_29 t_table t_table (0 : Int32) (fun r39 => ((r39 = 0 → (R9 (x1 + (0 : Int32)) (x2 + 1) t_f_29)) ∧ (¬ r39 = 0 → (R9 (x1 + (1 : Int32)) (x2 + 1) t_f_29)))))))))))

def pX11_keepers (t_thrown : Int32) (t_n : Int32) (t_f : Nat → Int32) (t_table : Nat → Int32) (K : Int32 → Int32 → (Nat → Int32) → Prop) : Prop :=
  (lpW3 (pX11_keepers_9 t_n t_table K (0 : Int32)) (0 : Int32) (0 : Int32) t_f)

def pX11_isMadeAhead_12 (t_n : Int32) (t_best : Nat → Int32) (t_made : Nat → Int32) (R2 : Int32 → Prop) (K : Int32 → Prop) (x1 : Int32) (x2 : Int32) (R12 : Int32 → Prop) : Prop :=
  ((t_n ≤ x2 → (R2 (x1 + 1))) ∧ (¬ t_n ≤ x2 → (vp_in (((8 : Int32) * x1) + x2) 64 ∧ (vp_in (((8 : Int32) * x1) + x2) 64 ∧ (((t_made (Int32.toNatClampNeg (((8 : Int32) * x1) + x2))) = (t_best (Int32.toNatClampNeg (((8 : Int32) * x1) + x2))) → (R12 (x2 + 1))) ∧ (¬ (t_made (Int32.toNatClampNeg (((8 : Int32) * x1) + x2))) = (t_best (Int32.toNatClampNeg (((8 : Int32) * x1) + x2))) → (vp_in (((8 : Int32) * x1) + x2) 64 ∧ (vp_in (((8 : Int32) * x1) + x2) 64 ∧ (((t_best (Int32.toNatClampNeg (((8 : Int32) * x1) + x2))) ≤ (t_made (Int32.toNatClampNeg (((8 : Int32) * x1) + x2))) → (zb (0 : Int32) ∧ K (0 : Int32))) ∧ (¬ (t_best (Int32.toNatClampNeg (((8 : Int32) * x1) + x2))) ≤ (t_made (Int32.toNatClampNeg (((8 : Int32) * x1) + x2))) → (zb (1 : Int32) ∧ K (1 : Int32))))))))))))

def pX11_isMadeAhead_2 (t_n : Int32) (t_best : Nat → Int32) (t_made : Nat → Int32) (K : Int32 → Prop) (x1 : Int32) (R2 : Int32 → Prop) : Prop :=
  ((t_n ≤ x1 → (zb (0 : Int32) ∧ K (0 : Int32))) ∧ (¬ t_n ≤ x1 → (lpW1 (pX11_isMadeAhead_12 t_n t_best t_made R2 K x1) (0 : Int32))))

def pX11_isMadeAhead (t_n : Int32) (t_best : Nat → Int32) (t_made : Nat → Int32) (K : Int32 → Prop) : Prop :=
  (lpW1 (pX11_isMadeAhead_2 t_n t_best t_made K) (0 : Int32))

def pX11_leastOf_124 (t_n : Int32) (t_table : Nat → Int32) (R28 : Int32 → (Nat → Int32) → (Nat → Int32) → (Nat → Int32) → Prop) (R53 : Int32 → (Nat → Int32) → Prop) (K : (Nat → Int32) → (Nat → Int32) → (Nat → Int32) → Prop) (x1 : Int32) (t_f : Nat → Int32) (t_made : Nat → Int32) (x2 : Int32) (t_best : Nat → Int32) (R124 : Int32 → (Nat → Int32) → Prop) : Prop :=
  (((64 : Int32) ≤ x2 → (R28 (x1 + 1) t_best t_f t_made)) ∧ (¬ (64 : Int32) ≤ x2 → (vp_in x2 64 ∧ (vp_in x2 64 ∧ (R124 (x2 + 1) (upd t_best (Int32.toNatClampNeg x2) (t_made (Int32.toNatClampNeg x2))))))))

def pX11_leastOf_63 (t_n : Int32) (t_table : Nat → Int32) (R28 : Int32 → (Nat → Int32) → (Nat → Int32) → (Nat → Int32) → Prop) (R53 : Int32 → (Nat → Int32) → Prop) (K : (Nat → Int32) → (Nat → Int32) → (Nat → Int32) → Prop) (x1 : Int32) (t_best : Nat → Int32) (t_f : Nat → Int32) (x2 : Int32) (x3 : Int32) (t_made : Nat → Int32) (R63 : Int32 → (Nat → Int32) → Prop) : Prop :=
  ((t_n ≤ x3 → (R53 (x2 + 1) t_made)) ∧ (¬ t_n ≤ x3 → (vp_in x2 8 ∧ (vp_in x3 8 ∧ (pX11_by t_table x2 x3 (fun r98 => (vp_in r98 8 ∧ (vp_in (((8 : Int32) * (t_f (Int32.toNatClampNeg x2))) + (t_f (Int32.toNatClampNeg x3))) 64 ∧ (R63 (x3 + 1) (upd t_made (Int32.toNatClampNeg (((8 : Int32) * (t_f (Int32.toNatClampNeg x2))) + (t_f (Int32.toNatClampNeg x3)))) (t_f (Int32.toNatClampNeg r98))))))))))))

def pX11_leastOf_53 (t_n : Int32) (t_table : Nat → Int32) (R28 : Int32 → (Nat → Int32) → (Nat → Int32) → (Nat → Int32) → Prop) (K : (Nat → Int32) → (Nat → Int32) → (Nat → Int32) → Prop) (x1 : Int32) (t_best : Nat → Int32) (t_f : Nat → Int32) (x2 : Int32) (t_made : Nat → Int32) (R53 : Int32 → (Nat → Int32) → Prop) : Prop :=
  ((t_n ≤ x2 → (pX11_isMadeAhead t_n t_best t_made (fun r116 => ((r116 = 0 → (R28 (x1 + 1) t_best t_f t_made)) ∧ (¬ r116 = 0 → (lpW2 (pX11_leastOf_124 t_n t_table R28 R53 K x1 t_f t_made) (0 : Int32) t_best)))))) ∧ (¬ t_n ≤ x2 → (lpW2 (pX11_leastOf_63 t_n t_table R28 R53 K x1 t_best t_f x2) (0 : Int32) t_made)))

def pX11_leastOf_28 (t_n : Int32) (t_table : Nat → Int32) (R2 : Int32 → (Nat → Int32) → Prop) (K : (Nat → Int32) → (Nat → Int32) → (Nat → Int32) → Prop) (x1 : Int32) (t_best : Nat → Int32) (t_f : Nat → Int32) (t_made : Nat → Int32) (R28 : Int32 → (Nat → Int32) → (Nat → Int32) → (Nat → Int32) → Prop) : Prop :=
  (pX11_factorial 10 t_n (fun r33 => ((r33 ≤ x1 → (K t_best t_f t_made)) ∧ (¬ r33 ≤ x1 → (pX11_permutation 8 t_f t_n x1 (fun t_f_48 => (lpW2 (pX11_leastOf_53 t_n t_table R28 K x1 t_best t_f_48) (0 : Int32) t_made)))))))

def pX11_leastOf_2 (t_n : Int32) (t_table : Nat → Int32) (K : (Nat → Int32) → (Nat → Int32) → (Nat → Int32) → Prop) (t_f : Nat → Int32) (t_made : Nat → Int32) (x1 : Int32) (t_best : Nat → Int32) (R2 : Int32 → (Nat → Int32) → Prop) : Prop :=
  (((64 : Int32) ≤ x1 → (lpW4 (pX11_leastOf_28 t_n t_table R2 K) (1 : Int32) t_best t_f t_made)) ∧ (¬ (64 : Int32) ≤ x1 → (vp_in x1 64 ∧ (vp_in x1 64 ∧ (R2 (x1 + 1) (upd t_best (Int32.toNatClampNeg x1) (t_table (Int32.toNatClampNeg x1))))))))

def pX11_leastOf (t_n : Int32) (t_best : Nat → Int32) (t_f : Nat → Int32) (t_made : Nat → Int32) (t_table : Nat → Int32) (K : (Nat → Int32) → (Nat → Int32) → (Nat → Int32) → Prop) : Prop :=
  (lpW2 (pX11_leastOf_2 t_n t_table K t_f t_made) (0 : Int32) t_best)

def pX11_isBest_50 (t_n : Int32) (t_best : Nat → Int32) (t_table : Nat → Int32) (R4 : Int32 → Int32 → Prop) (R14 : Int32 → Int32 → Prop) (K : Int32 → Prop) (x2 : Int32) (x3 : Int32) : Prop :=
  (R14 (0 : Int32) (x3 + 1))

def pX11_isBest_14 (t_n : Int32) (t_best : Nat → Int32) (t_table : Nat → Int32) (R4 : Int32 → Int32 → Prop) (K : Int32 → Prop) (x2 : Int32) (x1 : Int32) (x3 : Int32) (R14 : Int32 → Int32 → Prop) : Prop :=
  ((t_n ≤ x3 → (R4 x1 (x2 + 1))) ∧ (¬ t_n ≤ x3 → ((x1 = 0 → (pX11_isBest_50 t_n t_best t_table R4 R14 K x2 x3)) ∧ (¬ x1 = 0 → (vp_in (((8 : Int32) * x2) + x3) 64 ∧ (pX11_by t_table x2 x3 (fun r40 => ((¬ (t_best (Int32.toNatClampNeg (((8 : Int32) * x2) + x3))) = r40 → (pX11_isBest_50 t_n t_best t_table R4 R14 K x2 x3)) ∧ ((t_best (Int32.toNatClampNeg (((8 : Int32) * x2) + x3))) = r40 → (R14 (1 : Int32) (x3 + 1)))))))))))

def pX11_isBest_4 (t_n : Int32) (t_best : Nat → Int32) (t_table : Nat → Int32) (K : Int32 → Prop) (x1 : Int32) (x2 : Int32) (R4 : Int32 → Int32 → Prop) : Prop :=
  ((t_n ≤ x2 → (zb x1 ∧ K x1)) ∧ (¬ t_n ≤ x2 → (lpW2 (pX11_isBest_14 t_n t_best t_table R4 K x2) x1 (0 : Int32))))

def pX11_isBest (t_n : Int32) (t_best : Nat → Int32) (t_table : Nat → Int32) (K : Int32 → Prop) : Prop :=
  (lpW2 (pX11_isBest_4 t_n t_best t_table K) (1 : Int32) (0 : Int32))

def pX11_least_24 (t_n : Int32) (K : Int32 → Int32 → (Nat → Int32) → (Nat → Int32) → (Nat → Int32) → (Nat → Int32) → (Nat → Int32) → Prop) (t_thrown : Int32) (t_best : Nat → Int32) (t_f : Nat → Int32) (t_made : Nat → Int32) (t_twists : Nat → Int32) (x1 : Int32) (t_table : Nat → Int32) (R24 : Int32 → (Nat → Int32) → Prop) : Prop :=
  (((64 : Int32) ≤ x1 → (zb (1 : Int32) ∧ K (1 : Int32) t_thrown t_best t_f t_made t_table t_twists)) ∧ (¬ (64 : Int32) ≤ x1 → (vp_in x1 64 ∧ (vp_in x1 64 ∧ (R24 (x1 + 1) (upd t_table (Int32.toNatClampNeg x1) (t_best (Int32.toNatClampNeg x1))))))))

def pX11_least (t_thrown : Int32) (t_n : Int32) (t_best : Nat → Int32) (t_f : Nat → Int32) (t_made : Nat → Int32) (t_table : Nat → Int32) (t_twists : Nat → Int32) (K : Int32 → Int32 → (Nat → Int32) → (Nat → Int32) → (Nat → Int32) → (Nat → Int32) → (Nat → Int32) → Prop) : Prop :=
  (pX11_leastOf t_n t_best t_f t_made t_table (fun t_best_6 t_f_6 t_made_6 => (pX11_straight t_twists (fun t_twists_10 => (pX11_isBest t_n t_best_6 t_table (fun r14 => ((r14 = 0 → (lpW2 (pX11_least_24 t_n K (0 : Int32) t_best_6 t_f_6 t_made_6 t_twists_10) (0 : Int32) t_table)) ∧ (¬ r14 = 0 → (zb (0 : Int32) ∧ K (0 : Int32) (0 : Int32) t_best_6 t_f_6 t_made_6 t_table t_twists_10)))))))))

def pX11_like_17 (t_n : Int32) (t_kept : Nat → Int32) (t_keptMany : Nat → Int32) (t_table : Nat → Int32) (K : Int32 → Int32 → (Nat → Int32) → Prop) (x1 : Int32) (t_thrown : Int32) (x2 : Int32) (t_f : Nat → Int32) (R17 : Int32 → (Nat → Int32) → Prop) : Prop :=
  (pX11_factorial 10 t_n (fun r22 => ((r22 ≤ x2 → (K (0 : Int32) t_thrown t_f)) ∧ (¬ r22 ≤ x2 → (vp_in x1 4 ∧ ((¬ (t_keptMany (Int32.toNatClampNeg x1)) = t_n → (K (0 : Int32) t_thrown t_f)) ∧ ((t_keptMany (Int32.toNatClampNeg x1)) = t_n → (pX11_permutation 8 t_f t_n x2 (fun t_f_50 => (pX11_makes 256 t_n t_f_50 t_table t_kept ((64 : Int32) * x1) (fun r62 => ((r62 = 0 → (R17 (x2 + 1) t_f_50)) ∧ (¬ r62 = 0 → (K (1 : Int32) t_thrown t_f_50))))))))))))))

def pX11_like (t_thrown : Int32) (t_n : Int32) (t_f : Nat → Int32) (t_kept : Nat → Int32) (t_keptMany : Nat → Int32) (t_table : Nat → Int32) (x1 : Int32) (K : Int32 → Int32 → (Nat → Int32) → Prop) : Prop :=
  (pX11_isKept t_keptMany x1 (fun r7 => ((¬ r7 = 0 → (lpW2 (pX11_like_17 t_n t_kept t_keptMany t_table K x1 (0 : Int32)) (0 : Int32) t_f)) ∧ (r7 = 0 → (K (-1 : Int32) (0 : Int32) t_f)))))

def pX11_dual_58 (t_n : Int32) (R20 : Int32 → (Nat → Int32) → (Nat → Int32) → Prop) (R30 : Int32 → (Nat → Int32) → Prop) (K : Int32 → Int32 → (Nat → Int32) → (Nat → Int32) → (Nat → Int32) → Prop) (t_thrown : Int32) (t_twists : Nat → Int32) (x1 : Int32) (t_g : Nat → Int32) (x2 : Int32) (t_table : Nat → Int32) (R58 : Int32 → (Nat → Int32) → Prop) : Prop :=
  ((t_n ≤ x2 → (R20 (x1 + 1) t_g t_table)) ∧ (¬ t_n ≤ x2 → (vp_in x2 8 ∧ (vp_in (((8 : Int32) * x1) + x2) 64 ∧ (R58 (x2 + 1) (upd t_table (Int32.toNatClampNeg (((8 : Int32) * x1) + x2)) (t_g (Int32.toNatClampNeg x2))))))))

def pX11_dual_30 (t_n : Int32) (R20 : Int32 → (Nat → Int32) → (Nat → Int32) → Prop) (K : Int32 → Int32 → (Nat → Int32) → (Nat → Int32) → (Nat → Int32) → Prop) (t_thrown : Int32) (t_twists : Nat → Int32) (x1 : Int32) (t_table : Nat → Int32) (x2 : Int32) (t_g : Nat → Int32) (R30 : Int32 → (Nat → Int32) → Prop) : Prop :=
  ((t_n ≤ x2 → (lpW2 (pX11_dual_58 t_n R20 R30 K t_thrown t_twists x1 t_g) (0 : Int32) t_table)) ∧ (¬ t_n ≤ x2 → (pX11_by t_table x1 x2 (fun r45 => (vp_in r45 8 ∧ (R30 (x2 + 1) (upd t_g (Int32.toNatClampNeg r45) x2)))))))

def pX11_dual_20 (t_n : Int32) (K : Int32 → Int32 → (Nat → Int32) → (Nat → Int32) → (Nat → Int32) → Prop) (t_thrown : Int32) (t_twists : Nat → Int32) (x1 : Int32) (t_g : Nat → Int32) (t_table : Nat → Int32) (R20 : Int32 → (Nat → Int32) → (Nat → Int32) → Prop) : Prop :=
  ((t_n ≤ x1 → (zb (1 : Int32) ∧ K (1 : Int32) t_thrown t_g t_table t_twists)) ∧ (¬ t_n ≤ x1 → (lpW2 (pX11_dual_30 t_n R20 K t_thrown t_twists x1 t_table) (0 : Int32) t_g)))

def pX11_dual (t_thrown : Int32) (t_n : Int32) (t_g : Nat → Int32) (t_table : Nat → Int32) (t_twists : Nat → Int32) (K : Int32 → Int32 → (Nat → Int32) → (Nat → Int32) → (Nat → Int32) → Prop) : Prop :=
  (pX11_unevenRow t_n t_table (fun r6 => ((r6 < 0 → (pX11_straight t_twists (fun t_twists_15 => (lpW3 (pX11_dual_20 t_n K (0 : Int32) t_twists_15) (0 : Int32) t_g t_table)))) ∧ (¬ r6 < 0 → (zb (0 : Int32) ∧ K (0 : Int32) (0 : Int32) t_g t_table t_twists)))))

def pX11_becomes_11 (t_made : Nat → Int32) (K : Int32 → (Nat → Int32) → (Nat → Int32) → Prop) (t_n : Int32) (t_twists : Nat → Int32) (x2 : Int32) (t_table : Nat → Int32) (R11 : Int32 → (Nat → Int32) → Prop) : Prop :=
  (((64 : Int32) ≤ x2 → (K t_n t_table t_twists)) ∧ (¬ (64 : Int32) ≤ x2 → (vp_in x2 64 ∧ (vp_in x2 64 ∧ (R11 (x2 + 1) (upd t_table (Int32.toNatClampNeg x2) (t_made (Int32.toNatClampNeg x2))))))))

def pX11_becomes (t_n : Int32) (t_made : Nat → Int32) (t_table : Nat → Int32) (t_twists : Nat → Int32) (x1 : Int32) (K : Int32 → (Nat → Int32) → (Nat → Int32) → Prop) : Prop :=
  (pX11_straight t_twists (fun t_twists_6 => (lpW2 (pX11_becomes_11 t_made K x1 t_twists_6) (0 : Int32) t_table)))

def pX11_times_57 (t_kept : Nat → Int32) (t_keptMany : Nat → Int32) (R48 : Int32 → (Nat → Int32) → Prop) (K : Int32 → Int32 → Int32 → (Nat → Int32) → (Nat → Int32) → (Nat → Int32) → Prop) (x1 : Int32) (x2 : Int32) (x3 : Int32) (t_thrown : Int32) (t_n : Int32) (t_table : Nat → Int32) (t_twists : Nat → Int32) (x4 : Int32) (x5 : Int32) (t_made : Nat → Int32) (R57 : Int32 → (Nat → Int32) → Prop) : Prop :=
  ((x3 ≤ x5 → (R48 (x4 + 1) t_made)) ∧ (¬ x3 ≤ x5 → (¬ x2 = 0 ∧ (¬ x2 = 0 ∧ (pX11_by t_table (x4 / x2) (x5 / x2) (fun r85 => (¬ x2 = 0 ∧ (¬ x2 = 0 ∧ (vp_in ((((64 : Int32) * x1) + ((8 : Int32) * (x4 - x4 / x2 * x2))) + (x5 - x5 / x2 * x2)) 256 ∧ (vp_in (((8 : Int32) * x4) + x5) 64 ∧ (R57 (x5 + 1) (upd t_made (Int32.toNatClampNeg (((8 : Int32) * x4) + x5)) ((x2 * r85) + (t_kept (Int32.toNatClampNeg ((((64 : Int32) * x1) + ((8 : Int32) * (x4 - x4 / x2 * x2))) + (x5 - x5 / x2 * x2)))))))))))))))))

def pX11_times_48 (t_kept : Nat → Int32) (t_keptMany : Nat → Int32) (K : Int32 → Int32 → Int32 → (Nat → Int32) → (Nat → Int32) → (Nat → Int32) → Prop) (x1 : Int32) (x2 : Int32) (x3 : Int32) (t_thrown : Int32) (t_n : Int32) (t_table : Nat → Int32) (t_twists : Nat → Int32) (x4 : Int32) (t_made : Nat → Int32) (R48 : Int32 → (Nat → Int32) → Prop) : Prop :=
  ((x3 ≤ x4 → (pX11_becomes t_n t_made t_table t_twists x3 (fun t_n_127 t_table_127 t_twists_127 => (K t_n_127 t_thrown t_n_127 t_made t_table_127 t_twists_127)))) ∧ (¬ x3 ≤ x4 → (lpW2 (pX11_times_57 t_kept t_keptMany R48 K x1 x2 x3 t_thrown t_n t_table t_twists x4) (0 : Int32) t_made)))

def pX11_times (t_thrown : Int32) (t_n : Int32) (t_kept : Nat → Int32) (t_keptMany : Nat → Int32) (t_made : Nat → Int32) (t_table : Nat → Int32) (t_twists : Nat → Int32) (x1 : Int32) (K : Int32 → Int32 → Int32 → (Nat → Int32) → (Nat → Int32) → (Nat → Int32) → Prop) : Prop :=
  (pX11_isKept t_keptMany x1 (fun r7 => ((r7 = 0 → (K (-1 : Int32) (0 : Int32) t_n t_made t_table t_twists)) ∧ (¬ r7 = 0 → (vp_in x1 4 ∧ (((t_n * (t_keptMany (Int32.toNatClampNeg x1))) ≤ (8 : Int32) → (vp_in x1 4 ∧ (lpW2 (pX11_times_48 t_kept t_keptMany K x1 (t_keptMany (Int32.toNatClampNeg x1)) (t_n * (t_keptMany (Int32.toNatClampNeg x1))) (0 : Int32) t_n t_table t_twists) (0 : Int32) t_made))) ∧ (¬ (t_n * (t_keptMany (Int32.toNatClampNeg x1))) ≤ (8 : Int32) → (K (-1 : Int32) (0 : Int32) t_n t_made t_table t_twists))))))))

def pX11_melts_74 (t_n : Int32) (R36 : Int32 → (Nat → Int32) → Prop) (K : Int32 → (Nat → Int32) → Prop) (x3 : Int32) (x4 : Int32) (x5 : Int32) (s1 : Int32) (s2 : Int32) (t_part : Nat → Int32) : Prop :=
  (vp_in s1 8 ∧ (R36 (x5 + 1) (upd t_part (Int32.toNatClampNeg s1) s2)))

def pX11_melts_36 (t_n : Int32) (K : Int32 → (Nat → Int32) → Prop) (x3 : Int32) (x4 : Int32) (x5 : Int32) (t_part : Nat → Int32) (R36 : Int32 → (Nat → Int32) → Prop) : Prop :=
  ((t_n ≤ x5 → ((x3 = x4 → (zb (0 : Int32) ∧ K (0 : Int32) t_part)) ∧ (¬ x3 = x4 → (zb (1 : Int32) ∧ K (1 : Int32) t_part)))) ∧ (¬ t_n ≤ x5 → (vp_in x5 8 ∧ ((¬ (t_part (Int32.toNatClampNeg x5)) = x4 → (vp_in x5 8 ∧ (pX11_melts_74 t_n R36 K x3 x4 x5 x5 (t_part (Int32.toNatClampNeg x5)) t_part))) ∧ ((t_part (Int32.toNatClampNeg x5)) = x4 → (pX11_melts_74 t_n R36 K x3 x4 x5 x5 x3 t_part))))))

def pX11_melts (t_n : Int32) (t_part : Nat → Int32) (x1 : Int32) (x2 : Int32) (K : Int32 → (Nat → Int32) → Prop) : Prop :=
  (vp_in x1 8 ∧ (vp_in x2 8 ∧ (vp_in x1 8 ∧ (vp_in x2 8 ∧ (lpW2 (pX11_melts_36 t_n K (if (t_part (Int32.toNatClampNeg x2)) < (t_part (Int32.toNatClampNeg x1)) then (t_part (Int32.toNatClampNeg x2)) else (t_part (Int32.toNatClampNeg x1))) (if (t_part (Int32.toNatClampNeg x1)) < (t_part (Int32.toNatClampNeg x2)) then (t_part (Int32.toNatClampNeg x2)) else (t_part (Int32.toNatClampNeg x1)))) (0 : Int32) t_part)))))

def pX11_part_231 (R219 : Int32 → (Nat → Int32) → Prop) (K : Int32 → Int32 → Int32 → (Nat → Int32) → (Nat → Int32) → (Nat → Int32) → (Nat → Int32) → (Nat → Int32) → Prop) (x4 : Int32) (t_thrown : Int32) (t_n : Int32) (t_h : Nat → Int32) (t_part : Nat → Int32) (t_table : Nat → Int32) (t_twists : Nat → Int32) (x5 : Int32) (x6 : Int32) (t_made : Nat → Int32) (R231 : Int32 → (Nat → Int32) → Prop) : Prop :=
  ((t_n ≤ x6 → (R219 (x5 + 1) t_made)) ∧ (¬ t_n ≤ x6 → (vp_in x5 8 ∧ (vp_in x6 8 ∧ (pX11_by t_table x5 x6 (fun r271 => (vp_in r271 8 ∧ (vp_in (((8 : Int32) * (t_part (Int32.toNatClampNeg x5))) + (t_part (Int32.toNatClampNeg x6))) 64 ∧ (R231 (x6 + 1) (upd t_made (Int32.toNatClampNeg (((8 : Int32) * (t_part (Int32.toNatClampNeg x5))) + (t_part (Int32.toNatClampNeg x6)))) (t_part (Int32.toNatClampNeg r271))))))))))))

def pX11_part_219 (R60 : Int32 → (Nat → Int32) → Prop) (K : Int32 → Int32 → Int32 → (Nat → Int32) → (Nat → Int32) → (Nat → Int32) → (Nat → Int32) → (Nat → Int32) → Prop) (x4 : Int32) (t_thrown : Int32) (t_n : Int32) (t_h : Nat → Int32) (t_part : Nat → Int32) (t_table : Nat → Int32) (t_twists : Nat → Int32) (x5 : Int32) (t_made : Nat → Int32) (R219 : Int32 → (Nat → Int32) → Prop) : Prop :=
  ((t_n ≤ x5 → (pX11_becomes t_n t_made t_table t_twists x4 (fun t_n_291 t_table_291 t_twists_291 => (K t_n_291 t_thrown t_n_291 t_h t_made t_part t_table_291 t_twists_291)))) ∧ (¬ t_n ≤ x5 → (lpW2 (pX11_part_231 R219 K x4 t_thrown t_n t_h t_part t_table t_twists x5) (0 : Int32) t_made)))

def pX11_part_179 (R60 : Int32 → (Nat → Int32) → Prop) (R69 : Int32 → Int32 → (Nat → Int32) → Prop) (R81 : Int32 → Int32 → (Nat → Int32) → Prop) (R93 : Int32 → Int32 → (Nat → Int32) → Prop) (K : Int32 → Int32 → Int32 → (Nat → Int32) → (Nat → Int32) → (Nat → Int32) → (Nat → Int32) → (Nat → Int32) → Prop) (t_thrown : Int32) (t_n : Int32) (t_h : Nat → Int32) (t_made : Nat → Int32) (t_table : Nat → Int32) (t_twists : Nat → Int32) (x4 : Int32) (x5 : Int32) (x6 : Int32) (t_part : Nat → Int32) : Prop :=
  (R93 (1 : Int32) (x6 + 1) t_part)

def pX11_part_151 (R60 : Int32 → (Nat → Int32) → Prop) (R69 : Int32 → Int32 → (Nat → Int32) → Prop) (R81 : Int32 → Int32 → (Nat → Int32) → Prop) (R93 : Int32 → Int32 → (Nat → Int32) → Prop) (K : Int32 → Int32 → Int32 → (Nat → Int32) → (Nat → Int32) → (Nat → Int32) → (Nat → Int32) → (Nat → Int32) → Prop) (t_thrown : Int32) (t_n : Int32) (t_h : Nat → Int32) (t_made : Nat → Int32) (t_table : Nat → Int32) (t_twists : Nat → Int32) (x4 : Int32) (x5 : Int32) (x6 : Int32) (s0 : Int32) (t_part : Nat → Int32) : Prop :=
  (pX11_by t_table x6 x4 (fun r158 => (pX11_by t_table x6 x5 (fun r166 => (pX11_melts t_n t_part r158 r166 (fun r169 t_part_169 => ((¬ r169 = 0 → (pX11_part_179 R60 R69 R81 R93 K t_thrown t_n t_h t_made t_table t_twists x4 x5 x6 t_part_169)) ∧ (r169 = 0 → ((s0 = 0 → (R93 (0 : Int32) (x6 + 1) t_part_169)) ∧ (¬ s0 = 0 → (pX11_part_179 R60 R69 R81 R93 K t_thrown t_n t_h t_made t_table t_twists x4 x5 x6 t_part_169)))))))))))

def pX11_part_146 (R60 : Int32 → (Nat → Int32) → Prop) (R69 : Int32 → Int32 → (Nat → Int32) → Prop) (R81 : Int32 → Int32 → (Nat → Int32) → Prop) (R93 : Int32 → Int32 → (Nat → Int32) → Prop) (K : Int32 → Int32 → Int32 → (Nat → Int32) → (Nat → Int32) → (Nat → Int32) → (Nat → Int32) → (Nat → Int32) → Prop) (t_thrown : Int32) (t_n : Int32) (t_h : Nat → Int32) (t_made : Nat → Int32) (t_table : Nat → Int32) (t_twists : Nat → Int32) (x4 : Int32) (x5 : Int32) (x6 : Int32) (t_part : Nat → Int32) : Prop :=
  (pX11_part_151 R60 R69 R81 R93 K t_thrown t_n t_h t_made t_table t_twists x4 x5 x6 (1 : Int32) t_part)

def pX11_part_93 (R60 : Int32 → (Nat → Int32) → Prop) (R69 : Int32 → Int32 → (Nat → Int32) → Prop) (R81 : Int32 → Int32 → (Nat → Int32) → Prop) (K : Int32 → Int32 → Int32 → (Nat → Int32) → (Nat → Int32) → (Nat → Int32) → (Nat → Int32) → (Nat → Int32) → Prop) (t_thrown : Int32) (t_n : Int32) (t_h : Nat → Int32) (t_made : Nat → Int32) (t_table : Nat → Int32) (t_twists : Nat → Int32) (x4 : Int32) (x5 : Int32) (x3 : Int32) (x6 : Int32) (t_part : Nat → Int32) (R93 : Int32 → Int32 → (Nat → Int32) → Prop) : Prop :=
  ((t_n ≤ x6 → (R81 x3 (x5 + 1) t_part)) ∧ (¬ t_n ≤ x6 → (vp_in x4 8 ∧ (vp_in x5 8 ∧ ((¬ (t_part (Int32.toNatClampNeg x4)) = (t_part (Int32.toNatClampNeg x5)) → (R81 x3 (x5 + 1) t_part)) ∧ ((t_part (Int32.toNatClampNeg x4)) = (t_part (Int32.toNatClampNeg x5)) → (pX11_by t_table x4 x6 (fun r125 => (pX11_by t_table x5 x6 (fun r133 => (pX11_melts t_n t_part r125 r133 (fun r136 t_part_136 => ((¬ r136 = 0 → (pX11_part_146 R60 R69 R81 R93 K t_thrown t_n t_h t_made t_table t_twists x4 x5 x6 t_part_136)) ∧ (r136 = 0 → ((x3 = 0 → (pX11_part_151 R60 R69 R81 R93 K t_thrown t_n t_h t_made t_table t_twists x4 x5 x6 (0 : Int32) t_part_136)) ∧ (¬ x3 = 0 → (pX11_part_146 R60 R69 R81 R93 K t_thrown t_n t_h t_made t_table t_twists x4 x5 x6 t_part_136)))))))))))))))))

def pX11_part_81 (R60 : Int32 → (Nat → Int32) → Prop) (R69 : Int32 → Int32 → (Nat → Int32) → Prop) (K : Int32 → Int32 → Int32 → (Nat → Int32) → (Nat → Int32) → (Nat → Int32) → (Nat → Int32) → (Nat → Int32) → Prop) (t_thrown : Int32) (t_n : Int32) (t_h : Nat → Int32) (t_made : Nat → Int32) (t_table : Nat → Int32) (t_twists : Nat → Int32) (x4 : Int32) (x3 : Int32) (x5 : Int32) (t_part : Nat → Int32) (R81 : Int32 → Int32 → (Nat → Int32) → Prop) : Prop :=
  ((t_n ≤ x5 → (R69 x3 (x4 + 1) t_part)) ∧ (¬ t_n ≤ x5 → (lpW3 (pX11_part_93 R60 R69 R81 K t_thrown t_n t_h t_made t_table t_twists x4 x5) x3 (0 : Int32) t_part)))

def pX11_part_69 (R60 : Int32 → (Nat → Int32) → Prop) (K : Int32 → Int32 → Int32 → (Nat → Int32) → (Nat → Int32) → (Nat → Int32) → (Nat → Int32) → (Nat → Int32) → Prop) (t_thrown : Int32) (t_n : Int32) (t_h : Nat → Int32) (t_made : Nat → Int32) (t_table : Nat → Int32) (t_twists : Nat → Int32) (x3 : Int32) (x4 : Int32) (t_part : Nat → Int32) (R69 : Int32 → Int32 → (Nat → Int32) → Prop) : Prop :=
  ((t_n ≤ x4 → (R60 x3 t_part)) ∧ (¬ t_n ≤ x4 → (lpW3 (pX11_part_81 R60 R69 K t_thrown t_n t_h t_made t_table t_twists x4) x3 (0 : Int32) t_part)))

def pX11_part_60 (R32 : Int32 → (Nat → Int32) → Prop) (K : Int32 → Int32 → Int32 → (Nat → Int32) → (Nat → Int32) → (Nat → Int32) → (Nat → Int32) → (Nat → Int32) → Prop) (t_thrown : Int32) (t_n : Int32) (t_h : Nat → Int32) (t_made : Nat → Int32) (t_table : Nat → Int32) (t_twists : Nat → Int32) (x3 : Int32) (t_part : Nat → Int32) (R60 : Int32 → (Nat → Int32) → Prop) : Prop :=
  ((x3 = 0 → (pX11_numbered 8 t_n t_h t_part (fun r211 t_h_211 t_part_211 => (lpW2 (pX11_part_219 R60 K r211 t_thrown t_n t_h_211 t_part_211 t_table t_twists) (0 : Int32) t_made)))) ∧ (¬ x3 = 0 → (lpW3 (pX11_part_69 R60 K t_thrown t_n t_h t_made t_table t_twists) (0 : Int32) (0 : Int32) t_part)))

def pX11_part_32 (K : Int32 → Int32 → Int32 → (Nat → Int32) → (Nat → Int32) → (Nat → Int32) → (Nat → Int32) → (Nat → Int32) → Prop) (x1 : Int32) (x2 : Int32) (t_thrown : Int32) (t_n : Int32) (t_h : Nat → Int32) (t_made : Nat → Int32) (t_table : Nat → Int32) (t_twists : Nat → Int32) (x3 : Int32) (t_part : Nat → Int32) (R32 : Int32 → (Nat → Int32) → Prop) : Prop :=
  ((t_n ≤ x3 → (pX11_melts t_n t_part x1 x2 (fun r56 t_part_56 => (lpW2 (pX11_part_60 R32 K t_thrown t_n t_h t_made t_table t_twists) r56 t_part_56)))) ∧ (¬ t_n ≤ x3 → (vp_in x3 8 ∧ (R32 (x3 + 1) (upd t_part (Int32.toNatClampNeg x3) x3)))))

def pX11_part (t_thrown : Int32) (t_n : Int32) (t_h : Nat → Int32) (t_made : Nat → Int32) (t_part : Nat → Int32) (t_table : Nat → Int32) (t_twists : Nat → Int32) (x1 : Int32) (x2 : Int32) (K : Int32 → Int32 → Int32 → (Nat → Int32) → (Nat → Int32) → (Nat → Int32) → (Nat → Int32) → (Nat → Int32) → Prop) : Prop :=
  (pX11_isThing t_n x1 (fun r7 => ((r7 = 0 → (K (-1 : Int32) (0 : Int32) t_n t_h t_made t_part t_table t_twists)) ∧ (¬ r7 = 0 → (pX11_isThing t_n x2 (fun r15 => ((r15 = 0 → (K (-1 : Int32) (0 : Int32) t_n t_h t_made t_part t_table t_twists)) ∧ (¬ r15 = 0 → (pX11_isRack t_n t_table (fun r22 => ((¬ r22 = 0 → (lpW2 (pX11_part_32 K x1 x2 (0 : Int32) t_n t_h t_made t_table t_twists) (0 : Int32) t_part)) ∧ (r22 = 0 → (K (-1 : Int32) (0 : Int32) t_n t_h t_made t_part t_table t_twists)))))))))))))

def pX11_within_118 (t_n : Int32) (t_table : Nat → Int32) (R29 : Int32 → Int32 → Prop) (K : Int32 → Int32 → Int32 → (Nat → Int32) → Prop) (x2 : Int32) (t_thrown : Int32) (x3 : Int32) (t_rows : Int32) (t_row : Nat → Int32) (R118 : Int32 → Int32 → (Nat → Int32) → Prop) : Prop :=
  ((t_n ≤ x3 → (K t_rows t_thrown t_rows t_row)) ∧ (¬ t_n ≤ x3 → ((¬ ((x2 >>> (x3 &&& 31)) &&& (1 : Int32)) = (1 : Int32) → (R118 (x3 + 1) t_rows t_row)) ∧ (((x2 >>> (x3 &&& 31)) &&& (1 : Int32)) = (1 : Int32) → (vp_in t_rows 8 ∧ (R118 (x3 + 1) (t_rows + (1 : Int32)) (upd t_row (Int32.toNatClampNeg t_rows) x3)))))))

def pX11_within_52 (t_n : Int32) (t_table : Nat → Int32) (R29 : Int32 → Int32 → Prop) (R40 : Int32 → Int32 → Prop) (K : Int32 → Int32 → Int32 → (Nat → Int32) → Prop) (t_thrown : Int32) (t_rows : Int32) (t_row : Nat → Int32) (x3 : Int32) (x4 : Int32) (x2 : Int32) (x5 : Int32) (R52 : Int32 → Int32 → Prop) : Prop :=
  ((t_n ≤ x5 → (R40 x2 (x4 + 1))) ∧ (¬ t_n ≤ x5 → ((¬ (((x2 >>> (x4 &&& 31)) &&& (x2 >>> (x5 &&& 31))) &&& (1 : Int32)) = (1 : Int32) → (R52 (x2 ||| (0 : Int32)) (x5 + 1))) ∧ ((((x2 >>> (x4 &&& 31)) &&& (x2 >>> (x5 &&& 31))) &&& (1 : Int32)) = (1 : Int32) → (pX11_by t_table x4 x5 (fun r83 => (R52 (x2 ||| ((1 : Int32) <<< (r83 &&& 31))) (x5 + 1))))))))

def pX11_within_40 (t_n : Int32) (t_table : Nat → Int32) (R29 : Int32 → Int32 → Prop) (K : Int32 → Int32 → Int32 → (Nat → Int32) → Prop) (t_thrown : Int32) (t_rows : Int32) (t_row : Nat → Int32) (x3 : Int32) (x2 : Int32) (x4 : Int32) (R40 : Int32 → Int32 → Prop) : Prop :=
  ((t_n ≤ x4 → (R29 x2 (x3 + 1))) ∧ (¬ t_n ≤ x4 → (lpW2 (pX11_within_52 t_n t_table R29 R40 K t_thrown t_rows t_row x3 x4) x2 (0 : Int32))))

def pX11_within_29 (t_n : Int32) (t_table : Nat → Int32) (K : Int32 → Int32 → Int32 → (Nat → Int32) → Prop) (t_thrown : Int32) (t_rows : Int32) (t_row : Nat → Int32) (x2 : Int32) (x3 : Int32) (R29 : Int32 → Int32 → Prop) : Prop :=
  ((t_n ≤ x3 → (lpW3 (pX11_within_118 t_n t_table R29 K x2 t_thrown) (0 : Int32) (0 : Int32) t_row)) ∧ (¬ t_n ≤ x3 → (lpW2 (pX11_within_40 t_n t_table R29 K t_thrown t_rows t_row x3) x2 (0 : Int32))))

def pX11_within (t_thrown : Int32) (t_n : Int32) (t_rows : Int32) (t_row : Nat → Int32) (t_table : Nat → Int32) (x1 : Int32) (K : Int32 → Int32 → Int32 → (Nat → Int32) → Prop) : Prop :=
  (pX11_in (Int32.toInt64 x1) (1 : Int64) (Int32.toInt64 (((1 : Int32) <<< (t_n &&& 31)) - (1 : Int32))) (fun r17 => ((¬ r17 = 0 → (lpW2 (pX11_within_29 t_n t_table K (0 : Int32) t_rows t_row) x1 (0 : Int32))) ∧ (r17 = 0 → (K (-1 : Int32) (0 : Int32) t_rows t_row)))))

def pX11_modulus (t_thrown : Int32) (t_modulus : Int32) (t_twists : Nat → Int32) (x1 : Int32) (K : Int32 → Int32 → Int32 → (Nat → Int32) → Prop) : Prop :=
  (pX11_in (Int32.toInt64 x1) (2 : Int64) (7 : Int64) (fun r13 => ((¬ r13 = 0 → (pX11_straight t_twists (fun t_twists_27 => (zb (1 : Int32) ∧ K (1 : Int32) (0 : Int32) x1 t_twists_27)))) ∧ (r13 = 0 → (zb (0 : Int32) ∧ K (0 : Int32) (0 : Int32) t_modulus t_twists)))))

def pX11_twist (t_thrown : Int32) (t_n : Int32) (t_modulus : Int32) (t_twists : Nat → Int32) (x1 : Int32) (x2 : Int32) (x3 : Int32) (K : Int32 → Int32 → (Nat → Int32) → Prop) : Prop :=
  (pX11_isThing t_n x1 (fun r7 => ((r7 = 0 → (zb (0 : Int32) ∧ K (0 : Int32) (0 : Int32) t_twists)) ∧ (¬ r7 = 0 → (pX11_isThing t_n x2 (fun r15 => ((r15 = 0 → (zb (0 : Int32) ∧ K (0 : Int32) (0 : Int32) t_twists)) ∧ (¬ r15 = 0 → (pX11_in (Int32.toInt64 x3) (0 : Int64) (Int32.toInt64 (t_modulus - (1 : Int32))) (fun r31 => ((¬ r31 = 0 → (vp_in (((8 : Int32) * x1) + x2) 64 ∧ (zb (1 : Int32) ∧ K (1 : Int32) (0 : Int32) (upd t_twists (Int32.toNatClampNeg (((8 : Int32) * x1) + x2)) x3)))) ∧ (r31 = 0 → (zb (0 : Int32) ∧ K (0 : Int32) (0 : Int32) t_twists)))))))))))))

def pX11_twistOf (t_twists : Nat → Int32) (x1 : Int32) (x2 : Int32) (K : Int32 → Prop) : Prop :=
  (vp_in (((8 : Int32) * x1) + x2) 64 ∧ (K (t_twists (Int32.toNatClampNeg (((8 : Int32) * x1) + x2)))))

def pX11_twisted_30 (t_n : Int32) (t_twists : Nat → Int32) (K : Int32 → Int32 → Prop) (t_thrown : Int32) : Prop :=
  (K (-1 : Int32) t_thrown)

def pX11_twisted (t_thrown : Int32) (t_n : Int32) (t_twists : Nat → Int32) (x1 : Int32) (x2 : Int32) (K : Int32 → Int32 → Prop) : Prop :=
  (pX11_isThing t_n x1 (fun r7 => ((r7 = 0 → (pX11_twisted_30 t_n t_twists K (0 : Int32))) ∧ (¬ r7 = 0 → (pX11_isThing t_n x2 (fun r15 => ((r15 = 0 → (pX11_twisted_30 t_n t_twists K (0 : Int32))) ∧ (¬ r15 = 0 → (pX11_twistOf t_twists x1 x2 (fun r24 => (K r24 (0 : Int32))))))))))))

def pX11_open_22 (t_n : Int32) (t_modulus : Int32) (t_table : Nat → Int32) (t_twists : Nat → Int32) (R2 : Int32 → Prop) (R12 : Int32 → Prop) (K : Int32 → Prop) (x1 : Int32) (x2 : Int32) (x3 : Int32) (R22 : Int32 → Prop) : Prop :=
  ((t_n ≤ x3 → (R12 (x2 + 1))) ∧ (¬ t_n ≤ x3 → (pX11_twistOf t_twists x2 x3 (fun r33 => (pX11_by t_table x2 x3 (fun r41 => (pX11_twistOf t_twists x1 r41 (fun r44 => (pX11_twistOf t_twists x1 x3 (fun r53 => (pX11_by t_table x1 x2 (fun r60 => (pX11_by t_table x1 x3 (fun r66 => (pX11_twistOf t_twists r60 r66 (fun r69 => (¬ t_modulus = 0 ∧ (((((r33 + r44) - (r53 + r69)) - ((r33 + r44) - (r53 + r69)) / t_modulus * t_modulus) = 0 → (R22 (x3 + 1))) ∧ (¬ (((r33 + r44) - (r53 + r69)) - ((r33 + r44) - (r53 + r69)) / t_modulus * t_modulus) = 0 → (K ((((x1 * (8 : Int32)) + x2) * (8 : Int32)) + x3)))))))))))))))))))))

def pX11_open_12 (t_n : Int32) (t_modulus : Int32) (t_table : Nat → Int32) (t_twists : Nat → Int32) (R2 : Int32 → Prop) (K : Int32 → Prop) (x1 : Int32) (x2 : Int32) (R12 : Int32 → Prop) : Prop :=
  ((t_n ≤ x2 → (R2 (x1 + 1))) ∧ (¬ t_n ≤ x2 → (lpW1 (pX11_open_22 t_n t_modulus t_table t_twists R2 R12 K x1 x2) (0 : Int32))))

def pX11_open_2 (t_n : Int32) (t_modulus : Int32) (t_table : Nat → Int32) (t_twists : Nat → Int32) (K : Int32 → Prop) (x1 : Int32) (R2 : Int32 → Prop) : Prop :=
  ((t_n ≤ x1 → (K (-1 : Int32))) ∧ (¬ t_n ≤ x1 → (lpW1 (pX11_open_12 t_n t_modulus t_table t_twists R2 K x1) (0 : Int32))))

def pX11_open (t_n : Int32) (t_modulus : Int32) (t_table : Nat → Int32) (t_twists : Nat → Int32) (K : Int32 → Prop) : Prop :=
  (lpW1 (pX11_open_2 t_n t_modulus t_table t_twists K) (0 : Int32))

def pX11_closed (t_thrown : Int32) (t_n : Int32) (t_modulus : Int32) (t_rows : Int32) (t_row : Nat → Int32) (t_table : Nat → Int32) (t_twists : Nat → Int32) (K : Int32 → Int32 → Int32 → (Nat → Int32) → Prop) : Prop :=
  (pX11_isRack t_n t_table (fun r6 => ((¬ r6 = 0 → (pX11_open t_n t_modulus t_table t_twists (fun r15 => ((0 ≤ r15 → (pX11_tells t_rows t_row r15 (fun t_rows_27 t_row_27 => (K (1 : Int32) (0 : Int32) t_rows_27 t_row_27)))) ∧ (¬ 0 ≤ r15 → (K (0 : Int32) (0 : Int32) t_rows t_row)))))) ∧ (r6 = 0 → (K (-1 : Int32) (0 : Int32) t_rows t_row)))))

def pX11_cover_57 (t_modulus : Int32) (R49 : Int32 → (Nat → Int32) → Prop) (K : Int32 → Int32 → Int32 → (Nat → Int32) → (Nat → Int32) → (Nat → Int32) → Prop) (x1 : Int32) (x2 : Int32) (t_thrown : Int32) (t_n : Int32) (t_table : Nat → Int32) (t_twists : Nat → Int32) (x3 : Int32) (x4 : Int32) (t_made : Nat → Int32) (R57 : Int32 → (Nat → Int32) → Prop) : Prop :=
  ((x2 ≤ x4 → (R49 (x3 + 1) t_made)) ∧ (¬ x2 ≤ x4 → (¬ x1 = 0 ∧ (¬ x1 = 0 ∧ (pX11_by t_table (x3 / x1) (x4 / x1) (fun r83 => (¬ x1 = 0 ∧ (¬ x1 = 0 ∧ (¬ x1 = 0 ∧ (pX11_twistOf t_twists (x3 / x1) (x4 / x1) (fun r99 => (¬ x1 = 0 ∧ (vp_in (((8 : Int32) * x3) + x4) 64 ∧ (R57 (x4 + 1) (upd t_made (Int32.toNatClampNeg (((8 : Int32) * x3) + x4)) ((x1 * r83) + (((x4 - x4 / x1 * x1) + r99) - ((x4 - x4 / x1 * x1) + r99) / x1 * x1)))))))))))))))))

def pX11_cover_49 (t_modulus : Int32) (K : Int32 → Int32 → Int32 → (Nat → Int32) → (Nat → Int32) → (Nat → Int32) → Prop) (x1 : Int32) (x2 : Int32) (t_thrown : Int32) (t_n : Int32) (t_table : Nat → Int32) (t_twists : Nat → Int32) (x3 : Int32) (t_made : Nat → Int32) (R49 : Int32 → (Nat → Int32) → Prop) : Prop :=
  ((x2 ≤ x3 → (pX11_becomes t_n t_made t_table t_twists x2 (fun t_n_121 t_table_121 t_twists_121 => (K t_n_121 t_thrown t_n_121 t_made t_table_121 t_twists_121)))) ∧ (¬ x2 ≤ x3 → (lpW2 (pX11_cover_57 t_modulus R49 K x1 x2 t_thrown t_n t_table t_twists x3) (0 : Int32) t_made)))

def pX11_cover (t_thrown : Int32) (t_n : Int32) (t_modulus : Int32) (t_made : Nat → Int32) (t_table : Nat → Int32) (t_twists : Nat → Int32) (K : Int32 → Int32 → Int32 → (Nat → Int32) → (Nat → Int32) → (Nat → Int32) → Prop) : Prop :=
  (((8 : Int32) < (t_n * t_modulus) → (K (-1 : Int32) (0 : Int32) t_n t_made t_table t_twists)) ∧ (¬ (8 : Int32) < (t_n * t_modulus) → (pX11_isRack t_n t_table (fun r20 => ((r20 = 0 → (K (-1 : Int32) (0 : Int32) t_n t_made t_table t_twists)) ∧ (¬ r20 = 0 → (pX11_open t_n t_modulus t_table t_twists (fun r27 => ((r27 < 0 → (lpW2 (pX11_cover_49 t_modulus K t_modulus (t_n * t_modulus) (0 : Int32) t_n t_table t_twists) (0 : Int32) t_made)) ∧ (¬ r27 < 0 → (K (-1 : Int32) (0 : Int32) t_n t_made t_table t_twists)))))))))))

def pX11_rank_187 (R5 : Int32 → Int32 → (Nat → Int32) → Prop) (R163 : Int32 → (Nat → Int32) → Prop) (K : Int32 → (Nat → Int32) → Prop) (x1 : Int32) (x2 : Int32) (x3 : Int32) (x4 : Int32) (x7 : Int32) (x8 : Int32) (x9 : Int32) (t_equations : Nat → Int32) (R187 : Int32 → (Nat → Int32) → Prop) : Prop :=
  (((64 : Int32) ≤ x9 → (R163 (x7 + 1) t_equations)) ∧ (¬ (64 : Int32) ≤ x9 → ((x8 = 0 → (R163 (x7 + 1) t_equations)) ∧ (¬ x8 = 0 → (vp_in (((64 : Int32) * x7) + x9) 32768 ∧ (vp_in (((64 : Int32) * x3) + x9) 32768 ∧ (pJ9_floorMod_7cf53 ((t_equations (Int32.toNatClampNeg (((64 : Int32) * x7) + x9))) - (x8 * (t_equations (Int32.toNatClampNeg (((64 : Int32) * x3) + x9))))) x2 (fun r241 => (vp_in (((64 : Int32) * x7) + x9) 32768 ∧ (R187 (x9 + 1) (upd t_equations (Int32.toNatClampNeg (((64 : Int32) * x7) + x9)) r241)))))))))))

def pX11_rank_163 (R5 : Int32 → Int32 → (Nat → Int32) → Prop) (R86 : Int32 → (Nat → Int32) → Prop) (K : Int32 → (Nat → Int32) → Prop) (x1 : Int32) (x2 : Int32) (x3 : Int32) (x4 : Int32) (x7 : Int32) (t_equations : Nat → Int32) (R163 : Int32 → (Nat → Int32) → Prop) : Prop :=
  ((x1 ≤ x7 → (R5 (x3 + 1) (x4 + 1) t_equations)) ∧ (¬ x1 ≤ x7 → (vp_in (((64 : Int32) * x7) + x4) 32768 ∧ (lpW2 (pX11_rank_187 R5 R163 K x1 x2 x3 x4 x7 (t_equations (Int32.toNatClampNeg (((64 : Int32) * x7) + x4)))) (0 : Int32) t_equations))))

def pX11_rank_86 (R5 : Int32 → Int32 → (Nat → Int32) → Prop) (R55 : Int32 → Prop) (K : Int32 → (Nat → Int32) → Prop) (x1 : Int32) (x2 : Int32) (x3 : Int32) (x4 : Int32) (x5 : Int32) (x6 : Int32) (x7 : Int32) (t_equations : Nat → Int32) (R86 : Int32 → (Nat → Int32) → Prop) : Prop :=
  (((64 : Int32) ≤ x7 → (lpW2 (pX11_rank_163 R5 R86 K x1 x2 x3 x4) (x3 + (1 : Int32)) t_equations)) ∧ (¬ (64 : Int32) ≤ x7 → (vp_in (((64 : Int32) * x5) + x7) 32768 ∧ (¬ x2 = 0 ∧ (vp_in (((64 : Int32) * x3) + x7) 32768 ∧ (vp_in (((64 : Int32) * x5) + x7) 32768 ∧ (vp_in (((64 : Int32) * x3) + x7) 32768 ∧ (R86 (x7 + 1) (upd (upd t_equations (Int32.toNatClampNeg (((64 : Int32) * x5) + x7)) (t_equations (Int32.toNatClampNeg (((64 : Int32) * x3) + x7)))) (Int32.toNatClampNeg (((64 : Int32) * x3) + x7)) (((t_equations (Int32.toNatClampNeg (((64 : Int32) * x5) + x7))) * x6) - ((t_equations (Int32.toNatClampNeg (((64 : Int32) * x5) + x7))) * x6) / x2 * x2))))))))))

def pX11_rank_55 (R5 : Int32 → Int32 → (Nat → Int32) → Prop) (K : Int32 → (Nat → Int32) → Prop) (x1 : Int32) (x2 : Int32) (x3 : Int32) (x4 : Int32) (x5 : Int32) (t_equations : Nat → Int32) (x6 : Int32) (R55 : Int32 → Prop) : Prop :=
  (vp_in (((64 : Int32) * x5) + x4) 32768 ∧ (¬ x2 = 0 ∧ ((((x6 * (t_equations (Int32.toNatClampNeg (((64 : Int32) * x5) + x4)))) - (x6 * (t_equations (Int32.toNatClampNeg (((64 : Int32) * x5) + x4)))) / x2 * x2) = (1 : Int32) → (lpW2 (pX11_rank_86 R5 R55 K x1 x2 x3 x4 x5 x6) (0 : Int32) t_equations)) ∧ (¬ ((x6 * (t_equations (Int32.toNatClampNeg (((64 : Int32) * x5) + x4)))) - (x6 * (t_equations (Int32.toNatClampNeg (((64 : Int32) * x5) + x4)))) / x2 * x2) = (1 : Int32) → (R55 (x6 + 1))))))

def pX11_rank_43 (R5 : Int32 → Int32 → (Nat → Int32) → Prop) (K : Int32 → (Nat → Int32) → Prop) (x1 : Int32) (x2 : Int32) (x3 : Int32) (x4 : Int32) (x5 : Int32) (t_equations : Nat → Int32) : Prop :=
  ((¬ x5 = x1 → (lpW1 (pX11_rank_55 R5 K x1 x2 x3 x4 x5 t_equations) (1 : Int32))) ∧ (x5 = x1 → (R5 x3 (x4 + 1) t_equations)))

def pX11_rank_15 (R5 : Int32 → Int32 → (Nat → Int32) → Prop) (K : Int32 → (Nat → Int32) → Prop) (x1 : Int32) (x2 : Int32) (x3 : Int32) (x4 : Int32) (t_equations : Nat → Int32) (x5 : Int32) (R15 : Int32 → Prop) : Prop :=
  ((x1 ≤ x5 → (pX11_rank_43 R5 K x1 x2 x3 x4 x5 t_equations)) ∧ (¬ x1 ≤ x5 → (vp_in (((64 : Int32) * x5) + x4) 32768 ∧ ((¬ (t_equations (Int32.toNatClampNeg (((64 : Int32) * x5) + x4))) = 0 → (pX11_rank_43 R5 K x1 x2 x3 x4 x5 t_equations)) ∧ ((t_equations (Int32.toNatClampNeg (((64 : Int32) * x5) + x4))) = 0 → (R15 (x5 + 1)))))))

def pX11_rank_5 (K : Int32 → (Nat → Int32) → Prop) (x1 : Int32) (x2 : Int32) (x3 : Int32) (x4 : Int32) (t_equations : Nat → Int32) (R5 : Int32 → Int32 → (Nat → Int32) → Prop) : Prop :=
  (((64 : Int32) ≤ x4 → (K x3 t_equations)) ∧ (¬ (64 : Int32) ≤ x4 → (lpW1 (pX11_rank_15 R5 K x1 x2 x3 x4 t_equations) x3)))

def pX11_rank (t_equations : Nat → Int32) (x1 : Int32) (x2 : Int32) (K : Int32 → (Nat → Int32) → Prop) : Prop :=
  (lpW3 (pX11_rank_5 K x1 x2) (0 : Int32) (0 : Int32) t_equations)

def pX11_adds (t_equations : Nat → Int32) (x1 : Int32) (x2 : Int32) (x3 : Int32) (x4 : Int32) (x5 : Int32) (K : (Nat → Int32) → Prop) : Prop :=
  (vp_in ((((64 : Int32) * x1) + ((8 : Int32) * x2)) + x3) 32768 ∧ (pJ9_floorMod_7cf53 ((t_equations (Int32.toNatClampNeg ((((64 : Int32) * x1) + ((8 : Int32) * x2)) + x3))) + x4) x5 (fun r31 => (vp_in ((((64 : Int32) * x1) + ((8 : Int32) * x2)) + x3) 32768 ∧ (K (upd t_equations (Int32.toNatClampNeg ((((64 : Int32) * x1) + ((8 : Int32) * x2)) + x3)) r31))))))

def pX11_power_113 (t_n : Int32) (t_table : Nat → Int32) (R89 : Int32 → Int32 → (Nat → Int32) → Prop) (R101 : Int32 → Int32 → (Nat → Int32) → Prop) (K : Int32 → Int32 → (Nat → Int32) → (Nat → Int32) → (Nat → Int32) → Prop) (x1 : Int32) (t_thrown : Int32) (t_h : Nat → Int32) (t_orbit : Nat → Int32) (x4 : Int32) (x5 : Int32) (x3 : Int32) (x6 : Int32) (t_equations : Nat → Int32) (R113 : Int32 → Int32 → (Nat → Int32) → Prop) : Prop :=
  ((t_n ≤ x6 → (R101 x3 (x5 + 1) t_equations)) ∧ (¬ t_n ≤ x6 → (pX11_adds t_equations x3 x5 x6 (1 : Int32) x1 (fun t_equations_130 => (pX11_by t_table x5 x6 (fun r142 => (pX11_adds t_equations_130 x3 x4 r142 (1 : Int32) x1 (fun t_equations_147 => (pX11_adds t_equations_147 x3 x4 x6 (-1 : Int32) x1 (fun t_equations_158 => (pX11_by t_table x4 x5 (fun r168 => (pX11_by t_table x4 x6 (fun r176 => (pX11_adds t_equations_158 x3 r168 r176 (-1 : Int32) x1 (fun t_equations_181 => (R113 (x3 + 1) (x6 + 1) t_equations_181)))))))))))))))))

def pX11_power_101 (t_n : Int32) (t_table : Nat → Int32) (R89 : Int32 → Int32 → (Nat → Int32) → Prop) (K : Int32 → Int32 → (Nat → Int32) → (Nat → Int32) → (Nat → Int32) → Prop) (x1 : Int32) (t_thrown : Int32) (t_h : Nat → Int32) (t_orbit : Nat → Int32) (x4 : Int32) (x3 : Int32) (x5 : Int32) (t_equations : Nat → Int32) (R101 : Int32 → Int32 → (Nat → Int32) → Prop) : Prop :=
  ((t_n ≤ x5 → (R89 x3 (x4 + 1) t_equations)) ∧ (¬ t_n ≤ x5 → (lpW3 (pX11_power_113 t_n t_table R89 R101 K x1 t_thrown t_h t_orbit x4 x5) x3 (0 : Int32) t_equations)))

def pX11_power_89 (t_n : Int32) (t_table : Nat → Int32) (R62 : Int32 → (Nat → Int32) → Prop) (K : Int32 → Int32 → (Nat → Int32) → (Nat → Int32) → (Nat → Int32) → Prop) (x1 : Int32) (t_thrown : Int32) (t_h : Nat → Int32) (t_orbit : Nat → Int32) (x3 : Int32) (x4 : Int32) (t_equations : Nat → Int32) (R89 : Int32 → Int32 → (Nat → Int32) → Prop) : Prop :=
  ((t_n ≤ x4 → (pX11_rank t_equations x3 x1 (fun r217 t_equations_217 => (K ((t_n * t_n) - r217) t_thrown t_equations_217 t_h t_orbit)))) ∧ (¬ t_n ≤ x4 → (lpW3 (pX11_power_101 t_n t_table R89 K x1 t_thrown t_h t_orbit x4) x3 (0 : Int32) t_equations)))

def pX11_power_62 (t_n : Int32) (t_table : Nat → Int32) (K : Int32 → Int32 → (Nat → Int32) → (Nat → Int32) → (Nat → Int32) → Prop) (x1 : Int32) (t_thrown : Int32) (t_h : Nat → Int32) (t_orbit : Nat → Int32) (x3 : Int32) (t_equations : Nat → Int32) (R62 : Int32 → (Nat → Int32) → Prop) : Prop :=
  (((Int32.ofNat 32768) ≤ x3 → (lpW3 (pX11_power_89 t_n t_table R62 K x1 t_thrown t_h t_orbit) (0 : Int32) (0 : Int32) t_equations)) ∧ (¬ (Int32.ofNat 32768) ≤ x3 → (vp_in x3 32768 ∧ (R62 (x3 + 1) (upd t_equations (Int32.toNatClampNeg x3) (0 : Int32))))))

def pX11_power_26 (t_n : Int32) (t_table : Nat → Int32) (K : Int32 → Int32 → (Nat → Int32) → (Nat → Int32) → (Nat → Int32) → Prop) (x1 : Int32) (x2 : Int32) (t_thrown : Int32) (t_equations : Nat → Int32) (t_h : Nat → Int32) (t_orbit : Nat → Int32) : Prop :=
  (pX11_in (Int32.toInt64 x2) (0 : Int64) (1 : Int64) (fun r30 => ((r30 = 0 → (K (-1 : Int32) t_thrown t_equations t_h t_orbit)) ∧ (¬ r30 = 0 → (pX11_isRack t_n t_table (fun r37 => ((¬ r37 = 0 → ((¬ x2 = (1 : Int32) → (lpW2 (pX11_power_62 t_n t_table K x1 t_thrown t_h t_orbit) (0 : Int32) t_equations)) ∧ (x2 = (1 : Int32) → (pX11_findsOrbits t_n t_h t_orbit t_table (fun r55 t_h_55 t_orbit_55 => (K (t_n - r55) t_thrown t_equations t_h_55 t_orbit_55)))))) ∧ (r37 = 0 → (K (-1 : Int32) t_thrown t_equations t_h t_orbit)))))))))

def pX11_power (t_thrown : Int32) (t_n : Int32) (t_equations : Nat → Int32) (t_h : Nat → Int32) (t_orbit : Nat → Int32) (t_table : Nat → Int32) (x1 : Int32) (x2 : Int32) (K : Int32 → Int32 → (Nat → Int32) → (Nat → Int32) → (Nat → Int32) → Prop) : Prop :=
  ((x1 = (2 : Int32) → (pX11_power_26 t_n t_table K x1 x2 (0 : Int32) t_equations t_h t_orbit)) ∧ (¬ x1 = (2 : Int32) → ((x1 = (3 : Int32) → (pX11_power_26 t_n t_table K x1 x2 (0 : Int32) t_equations t_h t_orbit)) ∧ (¬ x1 = (3 : Int32) → ((x1 = (5 : Int32) → (pX11_power_26 t_n t_table K x1 x2 (0 : Int32) t_equations t_h t_orbit)) ∧ (¬ x1 = (5 : Int32) → ((¬ x1 = (7 : Int32) → (K (-1 : Int32) (0 : Int32) t_equations t_h t_orbit)) ∧ (x1 = (7 : Int32) → (pX11_power_26 t_n t_table K x1 x2 (0 : Int32) t_equations t_h t_orbit)))))))))

def pX11_strands (t_thrown : Int32) (t_strands : Int32) (t_letters : Int32) (x1 : Int32) (K : Int32 → Int32 → Int32 → Int32 → Prop) : Prop :=
  (pX11_in (Int32.toInt64 x1) (2 : Int64) (4 : Int64) (fun r13 => ((¬ r13 = 0 → (zb (1 : Int32) ∧ K (1 : Int32) (0 : Int32) x1 (0 : Int32))) ∧ (r13 = 0 → (zb (0 : Int32) ∧ K (0 : Int32) (0 : Int32) t_strands t_letters)))))

def pX11_letter (t_thrown : Int32) (t_strands : Int32) (t_letters : Int32) (t_letter : Nat → Int32) (x1 : Int32) (K : Int32 → Int32 → Int32 → (Nat → Int32) → Prop) : Prop :=
  ((x1 = 0 → (K (-1 : Int32) (0 : Int32) t_letters t_letter)) ∧ (¬ x1 = 0 → (pX11_in (Int32.toInt64 x1) (Int32.toInt64 ((1 : Int32) - t_strands)) (Int32.toInt64 (t_strands - (1 : Int32))) (fun r25 => ((r25 = 0 → (K (-1 : Int32) (0 : Int32) t_letters t_letter)) ∧ (¬ r25 = 0 → ((¬ t_letters = (24 : Int32) → (vp_in t_letters 24 ∧ (K (t_letters + (1 : Int32)) (0 : Int32) (t_letters + (1 : Int32)) (upd t_letter (Int32.toNatClampNeg t_letters) x1)))) ∧ (t_letters = (24 : Int32) → (K (-1 : Int32) (0 : Int32) t_letters t_letter)))))))))

def pX11_sumOf_199 (t_n : Int32) (t_modulus : Int32) (t_strands : Int32) (t_letters : Int32) (t_letter : Nat → Int32) (t_table : Nat → Int32) (t_twists : Nat → Int32) (R42 : Int32 → Int32 → (Nat → Int32) → Prop) (K : Int32 → (Nat → Int32) → Prop) (x3 : Int32) (t_colour : Nat → Int32) (x2 : Int32) (x4 : Int32) (R199 : Int32 → Int32 → Prop) : Prop :=
  ((t_strands ≤ x4 → (pJ9_floorMod_7cf53 x3 t_modulus (fun r244 => (K r244 t_colour)))) ∧ (¬ t_strands ≤ x4 → (vp_in x4 4 ∧ (¬ t_n = 0 ∧ (((t_colour (Int32.toNatClampNeg x4)) = (x2 - x2 / t_n * t_n) → (¬ t_n = 0 ∧ (R199 (x2 / t_n) (x4 + 1)))) ∧ (¬ (t_colour (Int32.toNatClampNeg x4)) = (x2 - x2 / t_n * t_n) → (K (-1 : Int32) t_colour)))))))

def pX11_sumOf_138 (t_n : Int32) (t_modulus : Int32) (t_strands : Int32) (t_letters : Int32) (t_letter : Nat → Int32) (t_table : Nat → Int32) (t_twists : Nat → Int32) (R42 : Int32 → Int32 → (Nat → Int32) → Prop) (K : Int32 → (Nat → Int32) → Prop) (x1 : Int32) (x3 : Int32) (x4 : Int32) (x5 : Int32) (x6 : Int32) (x7 : Int32) (t_colour : Nat → Int32) (x8 : Int32) (R138 : Int32 → Prop) : Prop :=
  (pX11_by t_table x7 x8 (fun r143 => ((r143 = x6 → (pX11_twistOf t_twists x7 x8 (fun r163 => (vp_in x5 4 ∧ (vp_in (x5 + (1 : Int32)) 4 ∧ (R42 (x3 - r163) (x4 + 1) (upd (upd t_colour (Int32.toNatClampNeg x5) x7) (Int32.toNatClampNeg (x5 + (1 : Int32))) x8))))))) ∧ (¬ r143 = x6 → (R138 (x8 + 1))))))

def pX11_sumOf_42 (t_n : Int32) (t_modulus : Int32) (t_strands : Int32) (t_letters : Int32) (t_letter : Nat → Int32) (t_table : Nat → Int32) (t_twists : Nat → Int32) (R4 : Int32 → Int32 → (Nat → Int32) → Prop) (K : Int32 → (Nat → Int32) → Prop) (x1 : Int32) (x3 : Int32) (x4 : Int32) (t_colour : Nat → Int32) (R42 : Int32 → Int32 → (Nat → Int32) → Prop) : Prop :=
  ((t_letters ≤ x4 → (lpW2 (pX11_sumOf_199 t_n t_modulus t_strands t_letters t_letter t_table t_twists R42 K x3 t_colour) x1 (0 : Int32))) ∧ (¬ t_letters ≤ x4 → (vp_in x4 24 ∧ (vp_in ((if 0 ≤ (t_letter (Int32.toNatClampNeg x4)) then (t_letter (Int32.toNatClampNeg x4)) else 0 - (t_letter (Int32.toNatClampNeg x4))) - (1 : Int32)) 4 ∧ (vp_in (((if 0 ≤ (t_letter (Int32.toNatClampNeg x4)) then (t_letter (Int32.toNatClampNeg x4)) else 0 - (t_letter (Int32.toNatClampNeg x4))) - (1 : Int32)) + (1 : Int32)) 4 ∧ (vp_in x4 24 ∧ (((t_letter (Int32.toNatClampNeg x4)) ≤ 0 → (lpW1 (pX11_sumOf_138 t_n t_modulus t_strands t_letters t_letter t_table t_twists R42 K x1 x3 x4 ((if 0 ≤ (t_letter (Int32.toNatClampNeg x4)) then (t_letter (Int32.toNatClampNeg x4)) else 0 - (t_letter (Int32.toNatClampNeg x4))) - (1 : Int32)) (t_colour (Int32.toNatClampNeg ((if 0 ≤ (t_letter (Int32.toNatClampNeg x4)) then (t_letter (Int32.toNatClampNeg x4)) else 0 - (t_letter (Int32.toNatClampNeg x4))) - (1 : Int32)))) (t_colour (Int32.toNatClampNeg (((if 0 ≤ (t_letter (Int32.toNatClampNeg x4)) then (t_letter (Int32.toNatClampNeg x4)) else 0 - (t_letter (Int32.toNatClampNeg x4))) - (1 : Int32)) + (1 : Int32)))) t_colour) (0 : Int32))) ∧ (¬ (t_letter (Int32.toNatClampNeg x4)) ≤ 0 → (pX11_twistOf t_twists (t_colour (Int32.toNatClampNeg ((if 0 ≤ (t_letter (Int32.toNatClampNeg x4)) then (t_letter (Int32.toNatClampNeg x4)) else 0 - (t_letter (Int32.toNatClampNeg x4))) - (1 : Int32)))) (t_colour (Int32.toNatClampNeg (((if 0 ≤ (t_letter (Int32.toNatClampNeg x4)) then (t_letter (Int32.toNatClampNeg x4)) else 0 - (t_letter (Int32.toNatClampNeg x4))) - (1 : Int32)) + (1 : Int32)))) (fun r101 => (pX11_by t_table (t_colour (Int32.toNatClampNeg ((if 0 ≤ (t_letter (Int32.toNatClampNeg x4)) then (t_letter (Int32.toNatClampNeg x4)) else 0 - (t_letter (Int32.toNatClampNeg x4))) - (1 : Int32)))) (t_colour (Int32.toNatClampNeg (((if 0 ≤ (t_letter (Int32.toNatClampNeg x4)) then (t_letter (Int32.toNatClampNeg x4)) else 0 - (t_letter (Int32.toNatClampNeg x4))) - (1 : Int32)) + (1 : Int32)))) (fun r117 => (vp_in ((if 0 ≤ (t_letter (Int32.toNatClampNeg x4)) then (t_letter (Int32.toNatClampNeg x4)) else 0 - (t_letter (Int32.toNatClampNeg x4))) - (1 : Int32)) 4 ∧ (vp_in (((if 0 ≤ (t_letter (Int32.toNatClampNeg x4)) then (t_letter (Int32.toNatClampNeg x4)) else 0 - (t_letter (Int32.toNatClampNeg x4))) - (1 : Int32)) + (1 : Int32)) 4 ∧ (R42 (x3 + r101) (x4 + 1) (upd (upd t_colour (Int32.toNatClampNeg ((if 0 ≤ (t_letter (Int32.toNatClampNeg x4)) then (t_letter (Int32.toNatClampNeg x4)) else 0 - (t_letter (Int32.toNatClampNeg x4))) - (1 : Int32))) r117) (Int32.toNatClampNeg (((if 0 ≤ (t_letter (Int32.toNatClampNeg x4)) then (t_letter (Int32.toNatClampNeg x4)) else 0 - (t_letter (Int32.toNatClampNeg x4))) - (1 : Int32)) + (1 : Int32))) (t_colour (Int32.toNatClampNeg ((if 0 ≤ (t_letter (Int32.toNatClampNeg x4)) then (t_letter (Int32.toNatClampNeg x4)) else 0 - (t_letter (Int32.toNatClampNeg x4))) - (1 : Int32))))))))))))))))))))

def pX11_sumOf_4 (t_n : Int32) (t_modulus : Int32) (t_strands : Int32) (t_letters : Int32) (t_letter : Nat → Int32) (t_table : Nat → Int32) (t_twists : Nat → Int32) (K : Int32 → (Nat → Int32) → Prop) (x1 : Int32) (x2 : Int32) (x3 : Int32) (t_colour : Nat → Int32) (R4 : Int32 → Int32 → (Nat → Int32) → Prop) : Prop :=
  ((t_strands ≤ x3 → (lpW3 (pX11_sumOf_42 t_n t_modulus t_strands t_letters t_letter t_table t_twists R4 K x1) (0 : Int32) (0 : Int32) t_colour)) ∧ (¬ t_strands ≤ x3 → (¬ t_n = 0 ∧ (vp_in x3 4 ∧ (¬ t_n = 0 ∧ (R4 (x2 / t_n) (x3 + 1) (upd t_colour (Int32.toNatClampNeg x3) (x2 - x2 / t_n * t_n))))))))

def pX11_sumOf (t_n : Int32) (t_modulus : Int32) (t_strands : Int32) (t_letters : Int32) (t_colour : Nat → Int32) (t_letter : Nat → Int32) (t_table : Nat → Int32) (t_twists : Nat → Int32) (x1 : Int32) (K : Int32 → (Nat → Int32) → Prop) : Prop :=
  (lpW3 (pX11_sumOf_4 t_n t_modulus t_strands t_letters t_letter t_table t_twists K x1) x1 (0 : Int32) t_colour)

def pX11_colourings_64 (t_n : Int32) (t_modulus : Int32) (t_strands : Int32) (t_letters : Int32) (t_letter : Nat → Int32) (t_table : Nat → Int32) (t_twists : Nat → Int32) (R30 : Int32 → Int32 → (Nat → Int32) → Prop) (K : Int32 → (Nat → Int32) → Prop) (x1 : Int32) (x2 : Int32) (x4 : Int32) (s0 : Int32) (t_colour : Nat → Int32) : Prop :=
  (R30 (s0 + (0 : Int32)) (x4 + 1) t_colour)

def pX11_colourings_60 (t_n : Int32) (t_modulus : Int32) (t_strands : Int32) (t_letters : Int32) (t_letter : Nat → Int32) (t_table : Nat → Int32) (t_twists : Nat → Int32) (R30 : Int32 → Int32 → (Nat → Int32) → Prop) (K : Int32 → (Nat → Int32) → Prop) (x1 : Int32) (x2 : Int32) (x4 : Int32) (s0 : Int32) (t_colour : Nat → Int32) : Prop :=
  (R30 (s0 + (1 : Int32)) (x4 + 1) t_colour)

def pX11_colourings_30 (t_n : Int32) (t_modulus : Int32) (t_strands : Int32) (t_letters : Int32) (t_letter : Nat → Int32) (t_table : Nat → Int32) (t_twists : Nat → Int32) (R4 : Int32 → Int32 → Prop) (K : Int32 → (Nat → Int32) → Prop) (x1 : Int32) (x2 : Int32) (x3 : Int32) (x4 : Int32) (t_colour : Nat → Int32) (R30 : Int32 → Int32 → (Nat → Int32) → Prop) : Prop :=
  ((x2 ≤ x4 → (K x3 t_colour)) ∧ (¬ x2 ≤ x4 → (pX11_sumOf t_n t_modulus t_strands t_letters t_colour t_letter t_table t_twists x4 (fun r39 t_colour_39 => ((r39 < 0 → (pX11_colourings_64 t_n t_modulus t_strands t_letters t_letter t_table t_twists R30 K x1 x2 x4 x3 t_colour_39)) ∧ (¬ r39 < 0 → ((x1 < 0 → (pX11_colourings_60 t_n t_modulus t_strands t_letters t_letter t_table t_twists R30 K x1 x2 x4 x3 t_colour_39)) ∧ (¬ x1 < 0 → ((¬ r39 = x1 → (pX11_colourings_64 t_n t_modulus t_strands t_letters t_letter t_table t_twists R30 K x1 x2 x4 x3 t_colour_39)) ∧ (r39 = x1 → (pX11_colourings_60 t_n t_modulus t_strands t_letters t_letter t_table t_twists R30 K x1 x2 x4 x3 t_colour_39)))))))))))

def pX11_colourings_4 (t_n : Int32) (t_modulus : Int32) (t_strands : Int32) (t_letters : Int32) (t_letter : Nat → Int32) (t_table : Nat → Int32) (t_twists : Nat → Int32) (K : Int32 → (Nat → Int32) → Prop) (x1 : Int32) (t_colour : Nat → Int32) (x2 : Int32) (x3 : Int32) (R4 : Int32 → Int32 → Prop) : Prop :=
  ((t_strands ≤ x3 → (lpW3 (pX11_colourings_30 t_n t_modulus t_strands t_letters t_letter t_table t_twists R4 K x1 x2) (0 : Int32) (0 : Int32) t_colour)) ∧ (¬ t_strands ≤ x3 → (R4 (x2 * t_n) (x3 + 1))))

def pX11_colourings (t_n : Int32) (t_modulus : Int32) (t_strands : Int32) (t_letters : Int32) (t_colour : Nat → Int32) (t_letter : Nat → Int32) (t_table : Nat → Int32) (t_twists : Nat → Int32) (x1 : Int32) (K : Int32 → (Nat → Int32) → Prop) : Prop :=
  (lpW2 (pX11_colourings_4 t_n t_modulus t_strands t_letters t_letter t_table t_twists K x1 t_colour) (1 : Int32) (0 : Int32))

def pX11_colours (t_thrown : Int32) (t_n : Int32) (t_modulus : Int32) (t_strands : Int32) (t_letters : Int32) (t_colour : Nat → Int32) (t_letter : Nat → Int32) (t_table : Nat → Int32) (t_twists : Nat → Int32) (K : Int32 → Int32 → (Nat → Int32) → Prop) : Prop :=
  (pX11_isRack t_n t_table (fun r6 => ((r6 = 0 → (K (-1 : Int32) (0 : Int32) t_colour)) ∧ (¬ r6 = 0 → (pX11_colourings t_n t_modulus t_strands t_letters t_colour t_letter t_table t_twists (-1 : Int32) (fun r14 t_colour_14 => (K r14 (0 : Int32) t_colour_14)))))))

def pX11_sums_36 (t_n : Int32) (t_modulus : Int32) (t_strands : Int32) (t_letters : Int32) (t_letter : Nat → Int32) (t_table : Nat → Int32) (t_twists : Nat → Int32) (K : Int32 → Int32 → (Nat → Int32) → Prop) (t_thrown : Int32) (t_colour : Nat → Int32) : Prop :=
  (K (-1 : Int32) t_thrown t_colour)

def pX11_sums (t_thrown : Int32) (t_n : Int32) (t_modulus : Int32) (t_strands : Int32) (t_letters : Int32) (t_colour : Nat → Int32) (t_letter : Nat → Int32) (t_table : Nat → Int32) (t_twists : Nat → Int32) (x1 : Int32) (K : Int32 → Int32 → (Nat → Int32) → Prop) : Prop :=
  (pX11_in (Int32.toInt64 x1) (0 : Int64) (Int32.toInt64 (t_modulus - (1 : Int32))) (fun r15 => ((r15 = 0 → (pX11_sums_36 t_n t_modulus t_strands t_letters t_letter t_table t_twists K (0 : Int32) t_colour)) ∧ (¬ r15 = 0 → (pX11_isRack t_n t_table (fun r22 => ((r22 = 0 → (pX11_sums_36 t_n t_modulus t_strands t_letters t_letter t_table t_twists K (0 : Int32) t_colour)) ∧ (¬ r22 = 0 → (pX11_colourings t_n t_modulus t_strands t_letters t_colour t_letter t_table t_twists x1 (fun r30 t_colour_30 => (K r30 (0 : Int32) t_colour_30)))))))))))

def pX11_rowsOf_113 (t_n : Int32) (rec : Int32 → Int32 → (Nat → Int32) → (Nat → Int32) → (Nat → Int32) → (Nat → Int32) → (Nat → Int32) → (Nat → Int32) → Int32 → Int32 → (Int32 → (Nat → Int32) → (Nat → Int32) → (Nat → Int32) → (Nat → Int32) → (Nat → Int32) → (Nat → Int32) → Prop) → Prop) (R73 : Int32 → Int32 → (Nat → Int32) → (Nat → Int32) → (Nat → Int32) → (Nat → Int32) → (Nat → Int32) → (Nat → Int32) → Prop) (K : Int32 → (Nat → Int32) → (Nat → Int32) → (Nat → Int32) → (Nat → Int32) → (Nat → Int32) → (Nat → Int32) → Prop) (x1 : Int32) (x2 : Int32) (x3 : Int32) (t_listedMany : Int32) (t_best : Nat → Int32) (t_f : Nat → Int32) (t_g : Nat → Int32) (t_listed : Nat → Int32) (t_made : Nat → Int32) (x4 : Int32) (t_table : Nat → Int32) (R113 : Int32 → (Nat → Int32) → Prop) : Prop :=
  ((t_n ≤ x4 → (rec t_n t_listedMany t_best t_f t_g t_listed t_made t_table (x1 + (1 : Int32)) x2 (fun t_listedMany_152 t_best_152 t_f_152 t_g_152 t_listed_152 t_made_152 t_table_152 => (R73 (x3 + 1) t_listedMany_152 t_best_152 t_f_152 t_g_152 t_listed_152 t_made_152 t_table_152)))) ∧ (¬ t_n ≤ x4 → (vp_in x4 8 ∧ (vp_in (((8 : Int32) * x1) + x4) 64 ∧ (R113 (x4 + 1) (upd t_table (Int32.toNatClampNeg (((8 : Int32) * x1) + x4)) (t_g (Int32.toNatClampNeg x4))))))))

def pX11_rowsOf_110 (t_n : Int32) (rec : Int32 → Int32 → (Nat → Int32) → (Nat → Int32) → (Nat → Int32) → (Nat → Int32) → (Nat → Int32) → (Nat → Int32) → Int32 → Int32 → (Int32 → (Nat → Int32) → (Nat → Int32) → (Nat → Int32) → (Nat → Int32) → (Nat → Int32) → (Nat → Int32) → Prop) → Prop) (R73 : Int32 → Int32 → (Nat → Int32) → (Nat → Int32) → (Nat → Int32) → (Nat → Int32) → (Nat → Int32) → (Nat → Int32) → Prop) (K : Int32 → (Nat → Int32) → (Nat → Int32) → (Nat → Int32) → (Nat → Int32) → (Nat → Int32) → (Nat → Int32) → Prop) (x1 : Int32) (x2 : Int32) (x3 : Int32) (t_listedMany : Int32) (t_best : Nat → Int32) (t_f : Nat → Int32) (t_g : Nat → Int32) (t_listed : Nat → Int32) (t_made : Nat → Int32) (t_table : Nat → Int32) : Prop :=
  (lpW2 (pX11_rowsOf_113 t_n rec R73 K x1 x2 x3 t_listedMany t_best t_f t_g t_listed t_made) (0 : Int32) t_table)

def pX11_rowsOf_73 (t_n : Int32) (rec : Int32 → Int32 → (Nat → Int32) → (Nat → Int32) → (Nat → Int32) → (Nat → Int32) → (Nat → Int32) → (Nat → Int32) → Int32 → Int32 → (Int32 → (Nat → Int32) → (Nat → Int32) → (Nat → Int32) → (Nat → Int32) → (Nat → Int32) → (Nat → Int32) → Prop) → Prop) (K : Int32 → (Nat → Int32) → (Nat → Int32) → (Nat → Int32) → (Nat → Int32) → (Nat → Int32) → (Nat → Int32) → Prop) (x1 : Int32) (x2 : Int32) (x3 : Int32) (t_listedMany : Int32) (t_best : Nat → Int32) (t_f : Nat → Int32) (t_g : Nat → Int32) (t_listed : Nat → Int32) (t_made : Nat → Int32) (t_table : Nat → Int32) (R73 : Int32 → Int32 → (Nat → Int32) → (Nat → Int32) → (Nat → Int32) → (Nat → Int32) → (Nat → Int32) → (Nat → Int32) → Prop) : Prop :=
  (pX11_factorial 10 t_n (fun r78 => ((r78 ≤ x3 → (K t_listedMany t_best t_f t_g t_listed t_made t_table)) ∧ (¬ r78 ≤ x3 → (pX11_permutation 8 t_g t_n x3 (fun t_g_93 => ((x2 = 0 → (pX11_rowsOf_110 t_n rec R73 K x1 x2 x3 t_listedMany t_best t_f t_g_93 t_listed t_made t_table)) ∧ (¬ x2 = 0 → (vp_in x1 8 ∧ ((¬ (t_g_93 (Int32.toNatClampNeg x1)) = x1 → (R73 (x3 + 1) t_listedMany t_best t_f t_g_93 t_listed t_made t_table)) ∧ ((t_g_93 (Int32.toNatClampNeg x1)) = x1 → (pX11_rowsOf_110 t_n rec R73 K x1 x2 x3 t_listedMany t_best t_f t_g_93 t_listed t_made t_table))))))))))))

def pX11_rowsOf_28 (t_n : Int32) (rec : Int32 → Int32 → (Nat → Int32) → (Nat → Int32) → (Nat → Int32) → (Nat → Int32) → (Nat → Int32) → (Nat → Int32) → Int32 → Int32 → (Int32 → (Nat → Int32) → (Nat → Int32) → (Nat → Int32) → (Nat → Int32) → (Nat → Int32) → (Nat → Int32) → Prop) → Prop) (K : Int32 → (Nat → Int32) → (Nat → Int32) → (Nat → Int32) → (Nat → Int32) → (Nat → Int32) → (Nat → Int32) → Prop) (t_listedMany : Int32) (t_best : Nat → Int32) (t_f : Nat → Int32) (t_g : Nat → Int32) (t_made : Nat → Int32) (t_table : Nat → Int32) (x3 : Int32) (t_listed : Nat → Int32) (R28 : Int32 → (Nat → Int32) → Prop) : Prop :=
  (((64 : Int32) ≤ x3 → (K (t_listedMany + (1 : Int32)) t_best t_f t_g t_listed t_made t_table)) ∧ (¬ (64 : Int32) ≤ x3 → (vp_in x3 64 ∧ (vp_in (((64 : Int32) * t_listedMany) + x3) 2560 ∧ (R28 (x3 + 1) (upd t_listed (Int32.toNatClampNeg (((64 : Int32) * t_listedMany) + x3)) (t_table (Int32.toNatClampNeg x3))))))))

def pX11_rowsOf_b (rec : Int32 → Int32 → (Nat → Int32) → (Nat → Int32) → (Nat → Int32) → (Nat → Int32) → (Nat → Int32) → (Nat → Int32) → Int32 → Int32 → (Int32 → (Nat → Int32) → (Nat → Int32) → (Nat → Int32) → (Nat → Int32) → (Nat → Int32) → (Nat → Int32) → Prop) → Prop) (t_n : Int32) (t_listedMany : Int32) (t_best : Nat → Int32) (t_f : Nat → Int32) (t_g : Nat → Int32) (t_listed : Nat → Int32) (t_made : Nat → Int32) (t_table : Nat → Int32) (x1 : Int32) (x2 : Int32) (K : Int32 → (Nat → Int32) → (Nat → Int32) → (Nat → Int32) → (Nat → Int32) → (Nat → Int32) → (Nat → Int32) → Prop) : Prop :=
  ((¬ x1 = t_n → (lpW8 (pX11_rowsOf_73 t_n rec K x1 x2) (0 : Int32) t_listedMany t_best t_f t_g t_listed t_made t_table)) ∧ (x1 = t_n → (pX11_unruly t_n t_table (fun r9 => ((0 ≤ r9 → (K t_listedMany t_best t_f t_g t_listed t_made t_table)) ∧ (¬ 0 ≤ r9 → (pX11_leastOf t_n t_best t_f t_made t_table (fun t_best_16 t_f_16 t_made_16 => (pX11_isBest t_n t_best_16 t_table (fun r20 => ((r20 = 0 → (K t_listedMany t_best_16 t_f_16 t_g t_listed t_made_16 t_table)) ∧ (¬ r20 = 0 → (lpW2 (pX11_rowsOf_28 t_n rec K t_listedMany t_best_16 t_f_16 t_g t_made_16 t_table) (0 : Int32) t_listed)))))))))))))

def pX11_rowsOf : Nat → Int32 → Int32 → (Nat → Int32) → (Nat → Int32) → (Nat → Int32) → (Nat → Int32) → (Nat → Int32) → (Nat → Int32) → Int32 → Int32 → (Int32 → (Nat → Int32) → (Nat → Int32) → (Nat → Int32) → (Nat → Int32) → (Nat → Int32) → (Nat → Int32) → Prop) → Prop
  | 0 => fun _ _ _ _ _ _ _ _ _ _ _ => False
  | d + 1 => pX11_rowsOf_b (pX11_rowsOf d)

def pX11_lists_86 (R35 : Int32 → (Nat → Int32) → Prop) (K : Int32 → Int32 → Int32 → Int32 → (Nat → Int32) → (Nat → Int32) → (Nat → Int32) → (Nat → Int32) → (Nat → Int32) → (Nat → Int32) → (Nat → Int32) → Prop) (t_n : Int32) (t_listedMany : Int32) (t_listN : Int32) (t_listWhat : Int32) (t_best : Nat → Int32) (t_f : Nat → Int32) (t_g : Nat → Int32) (t_listed : Nat → Int32) (t_made : Nat → Int32) (t_stored : Nat → Int32) (x4 : Int32) (t_table : Nat → Int32) (R86 : Int32 → (Nat → Int32) → Prop) : Prop :=
  (((64 : Int32) ≤ x4 → (K t_n t_listedMany t_listN t_listWhat t_best t_f t_g t_listed t_made t_stored t_table)) ∧ (¬ (64 : Int32) ≤ x4 → (vp_in x4 64 ∧ (vp_in x4 64 ∧ (R86 (x4 + 1) (upd t_table (Int32.toNatClampNeg x4) (t_stored (Int32.toNatClampNeg x4))))))))

def pX11_lists_35 (K : Int32 → Int32 → Int32 → Int32 → (Nat → Int32) → (Nat → Int32) → (Nat → Int32) → (Nat → Int32) → (Nat → Int32) → (Nat → Int32) → (Nat → Int32) → Prop) (x1 : Int32) (x2 : Int32) (x3 : Int32) (t_n : Int32) (t_listedMany : Int32) (t_listN : Int32) (t_listWhat : Int32) (t_best : Nat → Int32) (t_f : Nat → Int32) (t_g : Nat → Int32) (t_listed : Nat → Int32) (t_made : Nat → Int32) (t_table : Nat → Int32) (x4 : Int32) (t_stored : Nat → Int32) (R35 : Int32 → (Nat → Int32) → Prop) : Prop :=
  (((64 : Int32) ≤ x4 → (pX11_rowsOf 6 x1 (0 : Int32) t_best t_f t_g t_listed t_made t_table (0 : Int32) x2 (fun t_listedMany_75 t_best_75 t_f_75 t_g_75 t_listed_75 t_made_75 t_table_75 => (lpW2 (pX11_lists_86 R35 K x3 t_listedMany_75 t_listN t_listWhat t_best_75 t_f_75 t_g_75 t_listed_75 t_made_75 t_stored) (0 : Int32) t_table_75)))) ∧ (¬ (64 : Int32) ≤ x4 → (vp_in x4 64 ∧ (vp_in x4 64 ∧ (R35 (x4 + 1) (upd t_stored (Int32.toNatClampNeg x4) (t_table (Int32.toNatClampNeg x4))))))))

def pX11_lists_17 (K : Int32 → Int32 → Int32 → Int32 → (Nat → Int32) → (Nat → Int32) → (Nat → Int32) → (Nat → Int32) → (Nat → Int32) → (Nat → Int32) → (Nat → Int32) → Prop) (x1 : Int32) (x2 : Int32) (t_n : Int32) (t_listedMany : Int32) (t_listN : Int32) (t_listWhat : Int32) (t_best : Nat → Int32) (t_f : Nat → Int32) (t_g : Nat → Int32) (t_listed : Nat → Int32) (t_made : Nat → Int32) (t_stored : Nat → Int32) (t_table : Nat → Int32) : Prop :=
  (lpW2 (pX11_lists_35 K x1 x2 t_n t_n t_listedMany x1 x2 t_best t_f t_g t_listed t_made t_table) (0 : Int32) t_stored)

def pX11_lists (t_n : Int32) (t_listedMany : Int32) (t_listN : Int32) (t_listWhat : Int32) (t_best : Nat → Int32) (t_f : Nat → Int32) (t_g : Nat → Int32) (t_listed : Nat → Int32) (t_made : Nat → Int32) (t_stored : Nat → Int32) (t_table : Nat → Int32) (x1 : Int32) (x2 : Int32) (K : Int32 → Int32 → Int32 → Int32 → (Nat → Int32) → (Nat → Int32) → (Nat → Int32) → (Nat → Int32) → (Nat → Int32) → (Nat → Int32) → (Nat → Int32) → Prop) : Prop :=
  ((¬ x1 = t_listN → (pX11_lists_17 K x1 x2 t_n t_listedMany t_listN t_listWhat t_best t_f t_g t_listed t_made t_stored t_table)) ∧ (x1 = t_listN → ((¬ x2 = t_listWhat → (pX11_lists_17 K x1 x2 t_n t_listedMany t_listN t_listWhat t_best t_f t_g t_listed t_made t_stored t_table)) ∧ (x2 = t_listWhat → (K t_n t_listedMany t_listN t_listWhat t_best t_f t_g t_listed t_made t_stored t_table)))))

def pX11_isList_26 (K : Int32 → Prop) : Prop :=
  (zb (0 : Int32) ∧ K (0 : Int32))

def pX11_isList (x0 : Int32) (x1 : Int32) (K : Int32 → Prop) : Prop :=
  (pX11_in (Int32.toInt64 x0) (1 : Int64) (4 : Int64) (fun r6 => ((r6 = 0 → (pX11_isList_26 K)) ∧ (¬ r6 = 0 → (pX11_in (Int32.toInt64 x1) (0 : Int64) (1 : Int64) (fun r16 => ((r16 = 0 → (pX11_isList_26 K)) ∧ (¬ r16 = 0 → (zb (1 : Int32) ∧ K (1 : Int32))))))))))

def pX11_listed (t_thrown : Int32) (t_n : Int32) (t_listedMany : Int32) (t_listN : Int32) (t_listWhat : Int32) (t_best : Nat → Int32) (t_f : Nat → Int32) (t_g : Nat → Int32) (t_listed : Nat → Int32) (t_made : Nat → Int32) (t_stored : Nat → Int32) (t_table : Nat → Int32) (x1 : Int32) (x2 : Int32) (K : Int32 → Int32 → Int32 → Int32 → Int32 → Int32 → (Nat → Int32) → (Nat → Int32) → (Nat → Int32) → (Nat → Int32) → (Nat → Int32) → (Nat → Int32) → (Nat → Int32) → Prop) : Prop :=
  (pX11_isList x1 x2 (fun r7 => ((¬ r7 = 0 → (pX11_lists t_n t_listedMany t_listN t_listWhat t_best t_f t_g t_listed t_made t_stored t_table x1 x2 (fun t_n_18 t_listedMany_18 t_listN_18 t_listWhat_18 t_best_18 t_f_18 t_g_18 t_listed_18 t_made_18 t_stored_18 t_table_18 => (K t_listedMany_18 (0 : Int32) t_n_18 t_listedMany_18 t_listN_18 t_listWhat_18 t_best_18 t_f_18 t_g_18 t_listed_18 t_made_18 t_stored_18 t_table_18)))) ∧ (r7 = 0 → (K (-1 : Int32) (0 : Int32) t_n t_listedMany t_listN t_listWhat t_best t_f t_g t_listed t_made t_stored t_table)))))

def pX11_pick_47 (K : Int32 → Int32 → Int32 → Int32 → Int32 → Int32 → (Nat → Int32) → (Nat → Int32) → (Nat → Int32) → (Nat → Int32) → (Nat → Int32) → (Nat → Int32) → (Nat → Int32) → (Nat → Int32) → Prop) (x3 : Int32) (t_thrown : Int32) (t_n : Int32) (t_listedMany : Int32) (t_listN : Int32) (t_listWhat : Int32) (t_best : Nat → Int32) (t_f : Nat → Int32) (t_g : Nat → Int32) (t_listed : Nat → Int32) (t_made : Nat → Int32) (t_stored : Nat → Int32) (t_twists : Nat → Int32) (x4 : Int32) (t_table : Nat → Int32) (R47 : Int32 → (Nat → Int32) → Prop) : Prop :=
  (((64 : Int32) ≤ x4 → (zb (1 : Int32) ∧ K (1 : Int32) t_thrown t_n t_listedMany t_listN t_listWhat t_best t_f t_g t_listed t_made t_stored t_table t_twists)) ∧ (¬ (64 : Int32) ≤ x4 → (vp_in (((64 : Int32) * x3) + x4) 2560 ∧ (vp_in x4 64 ∧ (R47 (x4 + 1) (upd t_table (Int32.toNatClampNeg x4) (t_listed (Int32.toNatClampNeg (((64 : Int32) * x3) + x4)))))))))

def pX11_pick (t_thrown : Int32) (t_n : Int32) (t_listedMany : Int32) (t_listN : Int32) (t_listWhat : Int32) (t_best : Nat → Int32) (t_f : Nat → Int32) (t_g : Nat → Int32) (t_listed : Nat → Int32) (t_made : Nat → Int32) (t_stored : Nat → Int32) (t_table : Nat → Int32) (t_twists : Nat → Int32) (x1 : Int32) (x2 : Int32) (x3 : Int32) (K : Int32 → Int32 → Int32 → Int32 → Int32 → Int32 → (Nat → Int32) → (Nat → Int32) → (Nat → Int32) → (Nat → Int32) → (Nat → Int32) → (Nat → Int32) → (Nat → Int32) → (Nat → Int32) → Prop) : Prop :=
  (pX11_isList x1 x2 (fun r7 => ((¬ r7 = 0 → (pX11_lists t_n t_listedMany t_listN t_listWhat t_best t_f t_g t_listed t_made t_stored t_table x1 x2 (fun t_n_18 t_listedMany_18 t_listN_18 t_listWhat_18 t_best_18 t_f_18 t_g_18 t_listed_18 t_made_18 t_stored_18 t_table_18 => (pX11_in (Int32.toInt64 x3) (0 : Int64) (Int32.toInt64 (t_listedMany_18 - (1 : Int32))) (fun r31 => ((¬ r31 = 0 → (pX11_sized t_n_18 t_twists x1 (fun t_n_41 t_twists_41 => (lpW2 (pX11_pick_47 K x3 (0 : Int32) t_n_41 t_listedMany_18 t_listN_18 t_listWhat_18 t_best_18 t_f_18 t_g_18 t_listed_18 t_made_18 t_stored_18 t_twists_41) (0 : Int32) t_table_18)))) ∧ (r31 = 0 → (zb (0 : Int32) ∧ K (0 : Int32) (0 : Int32) t_n_18 t_listedMany_18 t_listN_18 t_listWhat_18 t_best_18 t_f_18 t_g_18 t_listed_18 t_made_18 t_stored_18 t_table_18 t_twists)))))))) ∧ (r7 = 0 → (zb (0 : Int32) ∧ K (0 : Int32) (0 : Int32) t_n t_listedMany t_listN t_listWhat t_best t_f t_g t_listed t_made t_stored t_table t_twists)))))

def pX11_row (t_thrown : Int32) (t_rows : Int32) (t_row : Nat → Int32) (x1 : Int32) (K : Int32 → Int32 → Prop) : Prop :=
  (pX11_in (Int32.toInt64 x1) (0 : Int64) (Int32.toInt64 (t_rows - (1 : Int32))) (fun r15 => ((r15 = 0 → (pX11_refuse (0 : Int32) (fun r31 t_thrown_31 => (K r31 t_thrown_31)))) ∧ (¬ r15 = 0 → (vp_in x1 8 ∧ (K (t_row (Int32.toNatClampNeg x1)) (0 : Int32)))))))
