/-! How many least racks of three and of four things there are: at most 19. -/
def exB (p : Nat → Bool) (n : Nat) : Bool := !al (fun i => !p i) n
theorem exB_t {p : Nat → Bool} {n : Nat} (h : exB p n = true) : ∃ i, i < n ∧ p i = true := by
  refine Classical.byContradiction (fun q => ?_)
  have : al (fun i => !p i) n = true := al_yes (fun i hi => by
    cases e : p i with
    | true => exact absurd ⟨i, hi, e⟩ q
    | false => rfl)
  unfold exB at h
  rw [this] at h
  cases h
def pt3 (q k : Nat) : Nat := 6746936868 >>> (2 * (3 * q + k)) % 4
def pv3 (q k : Nat) : Nat := 6598301220 >>> (2 * (3 * q + k)) % 4
def lk3 (i : Nat) : Nat := 163527009636446902220253271425024 >>> (20 * i) % 1048576
theorem pt3_ok : ∀ q, q < 6 → ∀ k, k < 3 → pdg 3 q k = pt3 q k := by decide +kernel
theorem pv3_ok : ∀ q, q < 6 → ∀ k, k < 3 → pt3 q (pv3 q k) = k ∧ pv3 q k < 3 := by decide +kernel
def tT3 (d : Nat → Nat) (a b : Nat) : Nat := pt3 (d a) b
def ag3 (d : Nat → Nat) (l : Nat) : Bool := al (fun a => al (fun b => (l < tT3 d a b) || al (fun c => tT3 d a (tT3 d b c) == tT3 d (tT3 d a b) (tT3 d a c)) 3) (l + 1)) (l + 1)
def ls3 (d : Nat → Nat) (q : Nat) : Bool := exB (fun u => (pt3 q (tT3 d (pv3 q (u / 3)) (pv3 q (u % 3))) < tT3 d (u / 3) (u % 3)) && al (fun w => pt3 q (tT3 d (pv3 q (w / 3)) (pv3 q (w % 3))) == tT3 d (w / 3) (w % 3)) u) 9
def chk3 : Bool := al (fun p0 => !ag3 (fun _ => p0) 0 || (al (fun p1 => !ag3 (fun i => if i = 0 then p0 else p1) 1 || (al (fun p2 => !ag3 (fun i => if i = 0 then p0 else if i = 1 then p1 else p2) 2 || (exB (ls3 (fun i => if i = 0 then p0 else if i = 1 then p1 else p2)) 6 || exB (fun i => lk3 i == ((p0 * 6 + p1) * 6 + p2)) 6)) 6)) 6)) 6
set_option maxRecDepth 100000 in
theorem chk3_ok : chk3 = true := by decide +kernel
def pt4 (q k : Nat) : Nat := 669236436005411928080145373044091295208890640391302853860 >>> (2 * (4 * q + k)) % 4
def pv4 (q k : Nat) : Nat := 664926173604805343331056000938794711025044630072668501220 >>> (2 * (4 * q + k)) % 4
def lk4 (i : Nat) : Nat := 304899766967023163468217770043169108043585522631556653420927354539474097816804948818508850463970587810755988422656 >>> (20 * i) % 1048576
theorem pt4_ok : ∀ q, q < 24 → ∀ k, k < 4 → pdg 4 q k = pt4 q k := by decide +kernel
theorem pv4_ok : ∀ q, q < 24 → ∀ k, k < 4 → pt4 q (pv4 q k) = k ∧ pv4 q k < 4 := by decide +kernel
def tT4 (d : Nat → Nat) (a b : Nat) : Nat := pt4 (d a) b
def ag4 (d : Nat → Nat) (l : Nat) : Bool := al (fun a => al (fun b => (l < tT4 d a b) || al (fun c => tT4 d a (tT4 d b c) == tT4 d (tT4 d a b) (tT4 d a c)) 4) (l + 1)) (l + 1)
def ls4 (d : Nat → Nat) (q : Nat) : Bool := exB (fun u => (pt4 q (tT4 d (pv4 q (u / 4)) (pv4 q (u % 4))) < tT4 d (u / 4) (u % 4)) && al (fun w => pt4 q (tT4 d (pv4 q (w / 4)) (pv4 q (w % 4))) == tT4 d (w / 4) (w % 4)) u) 16
def chk4 : Bool := al (fun p0 => !ag4 (fun _ => p0) 0 || (al (fun p1 => !ag4 (fun i => if i = 0 then p0 else p1) 1 || (al (fun p2 => !ag4 (fun i => if i = 0 then p0 else if i = 1 then p1 else p2) 2 || (al (fun p3 => !ag4 (fun i => if i = 0 then p0 else if i = 1 then p1 else if i = 2 then p2 else p3) 3 || (exB (ls4 (fun i => if i = 0 then p0 else if i = 1 then p1 else if i = 2 then p2 else p3)) 24 || exB (fun i => lk4 i == (((p0 * 24 + p1) * 24 + p2) * 24 + p3)) 19)) 24)) 24)) 24)) 24
set_option maxRecDepth 100000 in
theorem chk4_ok : chk4 = true := by decide +kernel
