/-! bitCount on sixteen bits: first over Nat, then all cases there -/
theorem ushN {x k : Nat} (hx : x < 2 ^ 32) {s : UInt32} (hs : s.toNat % 32 = k) : ((nI x).toUInt32 >>> s).toInt32 = nI (x >>> k) := by
  have e : (nI x).toUInt32 >>> s = (nI (x >>> k)).toUInt32 := by
    have h2 : x >>> k < 2 ^ 32 := Nat.lt_of_le_of_lt (Nat.shiftRight_le x k) hx
    have h1 : ((nI x).toUInt32).toNat = x := UInt32.toNat_ofNat_of_lt' hx
    have h3 : ((nI (x >>> k)).toUInt32).toNat = x >>> k := UInt32.toNat_ofNat_of_lt' h2
    apply UInt32.toNat_inj.mp
    rw [UInt32.toNat_shiftRight, h1, h3, hs]
  rw [e]; rfl
theorem nI_andN (a b : Nat) : nI a &&& nI b = nI (a &&& b) := by
  apply Int32.toBitVec_inj.mp
  simp [nI, Int32.toBitVec_and, Int32.toBitVec_ofNat']
theorem nI_subN {a b : Nat} (h : b ≤ a) : nI a - nI b = nI (a - b) := by
  obtain ⟨d, rfl⟩ : ∃ d, a = d + b := ⟨a - b, by omega⟩
  rw [← nI_add, Int32.add_sub_cancel, Nat.add_sub_cancel]
/-- the same over Nat, with the functions' own names: the kernel counts with them at once -/
def bcS (d : Nat) : Nat := Nat.land (Nat.add d (Nat.shiftRight d 16)) 63
def bcR (c : Nat) : Nat := bcS (Nat.add c (Nat.shiftRight c 8))
def bcQ (b : Nat) : Nat := bcR (Nat.land (Nat.add b (Nat.shiftRight b 4)) 252645135)
def bcP (a : Nat) : Nat := bcQ (Nat.add (Nat.land a 858993459) (Nat.land (Nat.shiftRight a 2) 858993459))
def bcN (x : Nat) : Nat := bcP (Nat.sub x (Nat.land (Nat.shiftRight x 1) 1431655765))
theorem bc_nat {F x : Nat} (h : x < 65536) : f_In_bitCount F (nI x) = some (nI (bcN x)) := by
  have h1 : (x >>> 1) &&& 1431655765 ≤ x := Nat.le_trans Nat.and_le_left (Nat.shiftRight_le x 1)
  obtain ⟨a, ha⟩ : ∃ a, a = x - ((x >>> 1) &&& 1431655765) := ⟨_, rfl⟩
  obtain ⟨b, hb⟩ : ∃ b, b = (a &&& 858993459) + ((a >>> 2) &&& 858993459) := ⟨_, rfl⟩
  obtain ⟨c, hc⟩ : ∃ c, c = (b + (b >>> 4)) &&& 252645135 := ⟨_, rfl⟩
  obtain ⟨d, hd⟩ : ∃ d, d = c + (c >>> 8) := ⟨_, rfl⟩
  have a1 : a < 65536 := by omega
  have b1 : b < 2 ^ 17 := by
    have p : a &&& 858993459 ≤ a := Nat.and_le_left
    have q : (a >>> 2) &&& 858993459 ≤ a := Nat.le_trans Nat.and_le_left (Nat.shiftRight_le a 2)
    omega
  have c1 : c < 2 ^ 18 := by
    have p : c ≤ b + (b >>> 4) := by rw [hc]; exact Nat.and_le_left
    have q : b >>> 4 ≤ b := Nat.shiftRight_le b 4
    omega
  have d1 : d < 2 ^ 19 := by
    have q : c >>> 8 ≤ c := Nat.shiftRight_le c 8
    omega
  rw [f_In_bitCount, nm, nm, nm, nm, nm, show (1431655765 : Int32) = nI 1431655765 from rfl, show (858993459 : Int32) = nI 858993459 from rfl, show (252645135 : Int32) = nI 252645135 from rfl, show (63 : Int32) = nI 63 from rfl]
  rw [ushN (k := 1) (by omega) rfl, nI_andN, nI_subN h1, ← ha, ushN (k := 2) (by omega) rfl, nI_andN, nI_andN, nI_add, ← hb, ushN (k := 4) (by omega) rfl, nI_add, nI_andN, ← hc, ushN (k := 8) (by omega) rfl, nI_add, ← hd, ushN (k := 16) (by omega) rfl, nI_add, nI_andN]
  rw [hd, hc, hb, ha]; rfl
def bcOk (m : Nat) : Nat → Bool
  | 0 => true
  | n + 1 => (Nat.beq (bcN (Nat.add (Nat.mul 2 (Nat.add m n)) 1)) (Nat.succ (bcN (Nat.add m n))) && Nat.beq (bcN (Nat.mul 2 (Nat.add m n))) (bcN (Nat.add m n))) && bcOk m n
theorem bcOk_all {m : Nat} : ∀ n, bcOk m n = true → ∀ i, i < n → bcN (2 * (m + i) + 1) = bcN (m + i) + 1 ∧ bcN (2 * (m + i)) = bcN (m + i) := by
  intro n
  induction n with
  | zero => intro _ i h; omega
  | succ n ih =>
    intro h i hi
    rw [bcOk, Bool.and_eq_true, Bool.and_eq_true] at h
    by_cases e : i = n
    · rw [e]; exact ⟨Nat.eq_of_beq_eq_true h.1.1, Nat.eq_of_beq_eq_true h.1.2⟩
    · exact ih h.2 i (by omega)
theorem bcOk_0 : bcOk 0 4096 = true := by decide +kernel
theorem bcOk_1 : bcOk 4096 4096 = true := by decide +kernel
theorem bcOk_2 : bcOk 8192 4096 = true := by decide +kernel
theorem bcOk_3 : bcOk 12288 4096 = true := by decide +kernel
theorem bcOk_4 : bcOk 16384 4096 = true := by decide +kernel
theorem bcOk_5 : bcOk 20480 4096 = true := by decide +kernel
theorem bcOk_6 : bcOk 24576 4096 = true := by decide +kernel
theorem bcOk_7 : bcOk 28672 4096 = true := by decide +kernel
theorem bc_two {y : Nat} (h : y < 32768) : bcN (2 * y + 1) = bcN y + 1 ∧ bcN (2 * y) = bcN y := by
  have key : ∀ k, k < 8 → ∀ i, i < 4096 → bcN (2 * (4096 * k + i) + 1) = bcN (4096 * k + i) + 1 ∧ bcN (2 * (4096 * k + i)) = bcN (4096 * k + i) := by
    intro k hk
    rcases (show k = 0 ∨ k = 1 ∨ k = 2 ∨ k = 3 ∨ k = 4 ∨ k = 5 ∨ k = 6 ∨ k = 7 by omega) with rfl | rfl | rfl | rfl | rfl | rfl | rfl | rfl
    · exact bcOk_all 4096 bcOk_0
    · exact bcOk_all 4096 bcOk_1
    · exact bcOk_all 4096 bcOk_2
    · exact bcOk_all 4096 bcOk_3
    · exact bcOk_all 4096 bcOk_4
    · exact bcOk_all 4096 bcOk_5
    · exact bcOk_all 4096 bcOk_6
    · exact bcOk_all 4096 bcOk_7
  have h1 := key (y / 4096) (by omega) (y % 4096) (by omega)
  rw [show 4096 * (y / 4096) + y % 4096 = y by omega] at h1
  exact h1
theorem pcn_two {y r : Nat} (hr : r < 2) : ∀ k, pcn (k + 1) (2 * y + r) = pcn k y + r := by
  intro k
  induction k with
  | zero =>
    rw [pcn, pcn, pcn, Nat.testBit_zero]
    rcases (show r = 0 ∨ r = 1 by omega) with rfl | rfl
    · rw [show (2 * y + 0) % 2 = 0 by omega]; rfl
    · rw [show (2 * y + 1) % 2 = 1 by omega]; rfl
  | succ k ih =>
    rw [pcn, ih, pcn, Nat.testBit_succ, show (2 * y + r) / 2 = y by omega]
    omega
theorem pc_two {y r : Nat} (hy : y < 32768) (hr : r < 2) : pc (2 * y + r) = pc y + r := by
  have h : y.testBit 15 = false := Nat.testBit_lt_two_pow (show y < 2 ^ 15 from hy)
  rw [pc, pc, pcn_two hr 15, show pcn 16 y = pcn 15 y + (y.testBit 15).toNat from rfl, h]
  rfl
theorem bcN_pc : ∀ x, x < 65536 → bcN x = pc x := by
  intro x
  induction x using Nat.strongRecOn with
  | ind x ih =>
    intro h
    by_cases h0 : x = 0
    · subst h0; decide
    · have h1 := ih (x / 2) (by omega) (by omega)
      have h2 := bc_two (y := x / 2) (by omega)
      have h3 := pc_two (y := x / 2) (r := x % 2) (by omega) (by omega)
      have e : 2 * (x / 2) + x % 2 = x := by omega
      rw [e, ← h1] at h3
      rw [h3]
      rcases (show x % 2 = 0 ∨ x % 2 = 1 by omega) with q | q
      · rw [q] at e ⊢
        have h4 := h2.2
        rw [show 2 * (x / 2) = x by omega] at h4
        rw [h4]; rfl
      · rw [q] at e ⊢
        have h4 := h2.1
        rw [e] at h4
        exact h4
theorem bc_all {F x : Nat} (h : x < 65536) : f_In_bitCount F (nI x) = some (nI (pc x)) := by
  rw [bc_nat h, bcN_pc x h]
