def b2 (b : Bool) : Int32 := if b then 1 else 0
theorem b2_0 {b : Bool} : b2 b = 0 ↔ b = false := by cases b <;> decide
theorem b2_ck {β : Type} (b : Bool) (k : Option β) : ckB (b2 b) k = k := by cases b <;> rfl
theorem b2_eq {a b : Bool} : b2 a = b2 b ↔ a = b := by cases a <;> cases b <;> decide
theorem nI_and (a b : Nat) : nI a &&& nI b = nI (a &&& b) := by
  apply Int32.toBitVec_inj.mp
  simp [nI, Int32.toBitVec_and, Int32.toBitVec_ofNat']
theorem nI_xor (a b : Nat) : nI a ^^^ nI b = nI (a ^^^ b) := by
  apply Int32.toBitVec_inj.mp
  simp [nI, Int32.toBitVec_xor, Int32.toBitVec_ofNat']
theorem nI_or (a b : Nat) : nI a ||| nI b = nI (a ||| b) := by
  apply Int32.toBitVec_inj.mp
  simp [nI, Int32.toBitVec_or, Int32.toBitVec_ofNat']
theorem nI_inj {a b : Nat} (ha : a < 2 ^ 31) (hb : b < 2 ^ 31) (h : nI a = nI b) : a = b := (nI_eq ha hb).mp h
theorem and_lt_l {a b n : Nat} (h : a < n) : a &&& b < n := Nat.lt_of_le_of_lt Nat.and_le_left h
theorem and_lt_r {a b n : Nat} (h : b < n) : a &&& b < n := Nat.lt_of_le_of_lt Nat.and_le_right h
theorem isOdd_all {F x : Nat} (h : x < 65536) : f_FM_isOdd F (nI x) = some (b2 (od x)) := by
  rw [f_FM_isOdd, bc_all h]
  simp only [Option.bind_some]
  have e : nI (pc x) &&& 1 = nI (pc x % 2) := pk_andN (Nat.lt_of_le_of_lt (pcn_le 16 x) (by decide)) 1 (by decide)
  rw [e, pc_od]
  cases od x <;> rfl
theorem ob_all0 : ∀ x, x < 256 → f_FM_oddBelow 0 (nI x) = some (nI (ob x)) := by decide +kernel
theorem ob_all {F x : Nat} (h : x < 256) : f_FM_oddBelow F (nI x) = some (nI (ob x)) := ob_all0 x h
theorem ob_lt0 : ∀ x, x < 256 → ob x < 128 := by decide +kernel
theorem ob_lt {x : Nat} (h : x < 256) : ob x < 256 := Nat.lt_trans (ob_lt0 x h) (by decide)
theorem turns_all {F u d : Nat} (hu : u < 256) (hd : d < 256) : f_FM_turnsAlways F (nI u) (nI d) = some (b2 (od (d &&& ob u))) := by
  rw [f_FM_turnsAlways, ob_all hu]
  simp only [Option.bind_some]
  rw [nI_and, isOdd_all (Nat.lt_trans (and_lt_l hd) (by decide))]
  simp only [Option.bind_some]
  rw [b2_ck]
theorem has_all0 : ∀ x, x < 256 → ∀ j, j < 8 → f_FM_has 0 (nI x) (nI j) = some (b2 (x.testBit j)) := by decide +kernel
theorem has_all {F x j : Nat} (h : x < 256) (hj : j < 8) : f_FM_has F (nI x) (nI j) = some (b2 (x.testBit j)) := has_all0 x h j hj
theorem beyond_all {F : Nat} (x : Int32) : f_FM_isBeyond F x = some (b2 (decide (x < -1000000 ∨ 1000000 < x))) := by
  rw [f_FM_isBeyond]
  by_cases h1 : x < -1000000
  · rw [if_pos h1]; simp [b_FM_isBeyond_12, h1, b2]
  · rw [if_neg h1]
    by_cases h2 : x ≤ 1000000
    · rw [if_pos h2]
      have h3 : ¬ (1000000 : Int32) < x := Int32.not_lt.mpr h2
      simp [h1, h3, b2]
    · rw [if_neg h2]
      have h3 : (1000000 : Int32) < x := Int32.not_le.mp h2
      simp [b_FM_isBeyond_12, h3, b2]
theorem ob_xor (x y : Nat) : ob (x ^^^ y) = ob x ^^^ ob y := by
  simp only [ob, Nat.shiftRight_xor_distrib]
  ac_rfl
theorem ob_bit : ∀ j, j < 8 → ob (2 ^ j) = 2 ^ j - 1 := by decide +kernel
theorem sh1 : ∀ n, n < 31 → (1 : Int32) <<< (nI n &&& 31) = nI (2 ^ n) := by decide +kernel
theorem isSet_all {F n : Nat} (hn : n < 31) (x : Int32) : f_FM_isSet F (nI n) x = some (b2 (decide (∃ k, k < 2 ^ n ∧ x = nI k))) := by
  have hp : 2 ^ n < 2 ^ 31 := Nat.pow_lt_pow_right (by decide) hn
  rw [f_FM_isSet, sh1 n hn]
  by_cases h1 : x < 0
  · rw [if_pos h1]
    have : ¬ ∃ k, k < 2 ^ n ∧ x = nI k := fun ⟨k, hk, e⟩ => by subst e; exact nI_pos (Nat.lt_trans hk hp) h1
    simp [this, b2]
  · rw [if_neg h1]
    obtain ⟨k, hk, rfl⟩ := nI_of h1
    by_cases h2 : nI (2 ^ n) ≤ nI k
    · rw [if_pos h2]
      have h3 := (nI_leI hp hk).mp h2
      have : ¬ ∃ j, j < 2 ^ n ∧ nI k = nI j := fun ⟨j, hj, e⟩ => by
        have := nI_inj hk (Nat.lt_trans hj hp) e
        omega
      simp [this, b2]
    · rw [if_neg h2]
      have h3 : k < 2 ^ n := by
        rcases Nat.lt_or_ge k (2 ^ n) with h | h
        · exact h
        · exact absurd ((nI_leI hp hk).mpr h) h2
      have : ∃ j, j < 2 ^ n ∧ nI k = nI j := ⟨k, h3, rfl⟩
      simp [this, b2]
