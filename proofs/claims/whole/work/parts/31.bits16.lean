/-! bitCount on sixteen bits, by all cases -/
theorem bc_0 : ∀ a, a < 16 → ∀ b, b < 256 → f_In_bitCount 0 (nI (256 * (0 + a) + b)) = some (nI (pc (256 * (0 + a) + b))) := by decide +kernel
theorem bc_1 : ∀ a, a < 16 → ∀ b, b < 256 → f_In_bitCount 0 (nI (256 * (16 + a) + b)) = some (nI (pc (256 * (16 + a) + b))) := by decide +kernel
theorem bc_2 : ∀ a, a < 16 → ∀ b, b < 256 → f_In_bitCount 0 (nI (256 * (32 + a) + b)) = some (nI (pc (256 * (32 + a) + b))) := by decide +kernel
theorem bc_3 : ∀ a, a < 16 → ∀ b, b < 256 → f_In_bitCount 0 (nI (256 * (48 + a) + b)) = some (nI (pc (256 * (48 + a) + b))) := by decide +kernel
theorem bc_4 : ∀ a, a < 16 → ∀ b, b < 256 → f_In_bitCount 0 (nI (256 * (64 + a) + b)) = some (nI (pc (256 * (64 + a) + b))) := by decide +kernel
theorem bc_5 : ∀ a, a < 16 → ∀ b, b < 256 → f_In_bitCount 0 (nI (256 * (80 + a) + b)) = some (nI (pc (256 * (80 + a) + b))) := by decide +kernel
theorem bc_6 : ∀ a, a < 16 → ∀ b, b < 256 → f_In_bitCount 0 (nI (256 * (96 + a) + b)) = some (nI (pc (256 * (96 + a) + b))) := by decide +kernel
theorem bc_7 : ∀ a, a < 16 → ∀ b, b < 256 → f_In_bitCount 0 (nI (256 * (112 + a) + b)) = some (nI (pc (256 * (112 + a) + b))) := by decide +kernel
theorem bc_8 : ∀ a, a < 16 → ∀ b, b < 256 → f_In_bitCount 0 (nI (256 * (128 + a) + b)) = some (nI (pc (256 * (128 + a) + b))) := by decide +kernel
theorem bc_9 : ∀ a, a < 16 → ∀ b, b < 256 → f_In_bitCount 0 (nI (256 * (144 + a) + b)) = some (nI (pc (256 * (144 + a) + b))) := by decide +kernel
theorem bc_10 : ∀ a, a < 16 → ∀ b, b < 256 → f_In_bitCount 0 (nI (256 * (160 + a) + b)) = some (nI (pc (256 * (160 + a) + b))) := by decide +kernel
theorem bc_11 : ∀ a, a < 16 → ∀ b, b < 256 → f_In_bitCount 0 (nI (256 * (176 + a) + b)) = some (nI (pc (256 * (176 + a) + b))) := by decide +kernel
theorem bc_12 : ∀ a, a < 16 → ∀ b, b < 256 → f_In_bitCount 0 (nI (256 * (192 + a) + b)) = some (nI (pc (256 * (192 + a) + b))) := by decide +kernel
theorem bc_13 : ∀ a, a < 16 → ∀ b, b < 256 → f_In_bitCount 0 (nI (256 * (208 + a) + b)) = some (nI (pc (256 * (208 + a) + b))) := by decide +kernel
theorem bc_14 : ∀ a, a < 16 → ∀ b, b < 256 → f_In_bitCount 0 (nI (256 * (224 + a) + b)) = some (nI (pc (256 * (224 + a) + b))) := by decide +kernel
theorem bc_15 : ∀ a, a < 16 → ∀ b, b < 256 → f_In_bitCount 0 (nI (256 * (240 + a) + b)) = some (nI (pc (256 * (240 + a) + b))) := by decide +kernel
theorem bc_all {F x : Nat} (h : x < 65536) : f_In_bitCount F (nI x) = some (nI (pc x)) := by
  have key : ∀ k, k < 16 → ∀ a, a < 16 → ∀ b, b < 256 → f_In_bitCount 0 (nI (256 * (16 * k + a) + b)) = some (nI (pc (256 * (16 * k + a) + b))) := by
    intro k hk
    rcases (show k = 0 ∨ k = 1 ∨ k = 2 ∨ k = 3 ∨ k = 4 ∨ k = 5 ∨ k = 6 ∨ k = 7 ∨ k = 8 ∨ k = 9 ∨ k = 10 ∨ k = 11 ∨ k = 12 ∨ k = 13 ∨ k = 14 ∨ k = 15 by omega) with rfl | rfl | rfl | rfl | rfl | rfl | rfl | rfl | rfl | rfl | rfl | rfl | rfl | rfl | rfl | rfl
    · exact bc_0
    · exact bc_1
    · exact bc_2
    · exact bc_3
    · exact bc_4
    · exact bc_5
    · exact bc_6
    · exact bc_7
    · exact bc_8
    · exact bc_9
    · exact bc_10
    · exact bc_11
    · exact bc_12
    · exact bc_13
    · exact bc_14
    · exact bc_15
  have h1 := key (x / 4096) (by omega) (x / 256 % 16) (by omega) (x % 256) (by omega)
  have e : 256 * (16 * (x / 4096) + x / 256 % 16) + x % 256 = x := by omega
  rw [e] at h1
  exact h1
