/-! sets as numbers: parity of members, the modes that an odd number of members lie above -/
def odn : Nat → Nat → Bool
  | 0, _ => false
  | k + 1, x => odn k x ^^ x.testBit k
/-- an odd number of the first sixteen bits -/
def od (x : Nat) : Bool := odn 16 x
theorem odn_xor (k x y : Nat) : odn k (x ^^^ y) = (odn k x ^^ odn k y) := by
  induction k with
  | zero => rfl
  | succ k ih => simp only [odn, ih, Nat.testBit_xor]; cases odn k x <;> cases odn k y <;> cases x.testBit k <;> cases y.testBit k <;> rfl
theorem od_xor (x y : Nat) : od (x ^^^ y) = (od x ^^ od y) := odn_xor 16 x y
theorem odn_zero (k : Nat) : odn k 0 = false := by
  induction k with
  | zero => rfl
  | succ k ih => simp [odn, ih]
theorem od_zero : od 0 = false := odn_zero 16
theorem and_xor_l (x y z : Nat) : x &&& (y ^^^ z) = (x &&& y) ^^^ (x &&& z) := by
  apply Nat.eq_of_testBit_eq
  intro i
  simp only [Nat.testBit_and, Nat.testBit_xor]
  cases x.testBit i <;> cases y.testBit i <;> cases z.testBit i <;> rfl
theorem and_xor_r (x y z : Nat) : (x ^^^ y) &&& z = (x &&& z) ^^^ (y &&& z) := by
  rw [Nat.and_comm, and_xor_l, Nat.and_comm z x, Nat.and_comm z y]
theorem od_and_l (x y z : Nat) : od (x &&& (y ^^^ z)) = (od (x &&& y) ^^ od (x &&& z)) := by rw [and_xor_l, od_xor]
theorem od_and_r (x y z : Nat) : od ((x ^^^ y) &&& z) = (od (x &&& z) ^^ od (y &&& z)) := by rw [and_xor_r, od_xor]
/-- how many of the first sixteen bits -/
def pcn : Nat → Nat → Nat
  | 0, _ => 0
  | k + 1, x => pcn k x + (x.testBit k).toNat
def pc (x : Nat) : Nat := pcn 16 x
theorem pcn_odn (k x : Nat) : pcn k x % 2 = (odn k x).toNat := by
  induction k with
  | zero => rfl
  | succ k ih =>
    simp only [pcn, odn]
    cases h1 : odn k x <;> cases h2 : x.testBit k <;> simp [h1] at ih <;> simp <;> omega
theorem pc_od (x : Nat) : pc x % 2 = (od x).toNat := pcn_odn 16 x
theorem pcn_le (k x : Nat) : pcn k x ≤ k := by
  induction k with
  | zero => exact Nat.le_refl _
  | succ k ih =>
    simp only [pcn]
    have : (x.testBit k).toNat ≤ 1 := by cases x.testBit k <;> decide
    omega
/-- the modes below which .. : bit i is the parity of the members above i -/
def ob (x : Nat) : Nat :=
  let a := x >>> 1
  let b := a ^^^ (a >>> 1)
  let c := b ^^^ (b >>> 2)
  c ^^^ (c >>> 4)
theorem bc_small : ∀ x, x < 256 → f_In_bitCount 0 (nI x) = some (nI (pc x)) := by decide +kernel
