/-! what a product makes of a state: the model's steps, and the closed form -/
theorem ones_mono : ∀ (n : Nat) (x a i r : Int32), b_Mo_ones_4 0 n x a i = some r → ∀ F m, b_Mo_ones_4 F (n + m) x a i = some r := by
  intro n
  induction n with
  | zero => intro x a i r h; cases h
  | succ n ih =>
    intro x a i r h F m
    rw [b_Mo_ones_4] at h
    rw [show n + 1 + m = (n + m) + 1 by omega, b_Mo_ones_4]
    by_cases c : (8 : Int32) ≤ i
    · rw [if_pos c] at h ⊢; exact h
    · rw [if_neg c] at h ⊢; exact ih _ _ _ _ h F m
theorem ones_9 : ∀ x, x < 256 → b_Mo_ones_4 0 9 (nI x) 0 0 = some (nI (pc x)) := by decide +kernel
theorem ones_all {F x : Nat} (hF : 9 ≤ F) (hx : x < 256) : f_Mo_ones F (nI x) = some (nI (pc x)) := by
  rw [f_Mo_ones]
  obtain ⟨m, rfl⟩ : ∃ m, F = 9 + m := ⟨F - 9, by omega⟩
  exact ones_mono 9 _ _ _ _ (ones_9 x hx) _ m
theorem bit_all : ∀ x, x < 256 → ∀ j, j < 8 → (nI x >>> (nI j &&& 31)) &&& 1 = b2 (x.testBit j) := by decide +kernel
def sgI (g : Bool) : Int32 := if g then -1 else 1
theorem sgI_neg (g : Bool) : -sgI g = sgI (!g) := by cases g <;> rfl
theorem sgI_xor (g h : Bool) : (if h then -sgI g else sgI g) = sgI (g ^^ h) := by cases g <;> cases h <;> rfl
theorem xor_lt {a b : Nat} (ha : a < 256) (hb : b < 256) : a ^^^ b < 256 := Nat.xor_lt_two_pow (n := 8) ha hb
theorem pow_lt8 {j : Nat} (h : j < 8) : 2 ^ j < 256 := Nat.pow_lt_pow_right (by decide) h
theorem par_rem (x : Nat) : nI (pc x) - nI (pc x) / 2 * 2 = b2 (od x) := by
  rw [show (2 : Int32) = nI 2 from rfl, pk_rem (a := pc x) (Nat.lt_of_le_of_lt (pcn_le 16 x) (by decide)) (by decide) (by decide), pc_od]
  cases od x <;> rfl
theorem climb_all {F s j : Nat} {g up : Bool} (hF : 9 ≤ F) (hs : s < 256) (hj : j < 8) :
    f_Mo_climb F (nI s) (sgI g) (nI j) (b2 up) = if s.testBit j = up then some (0, nI s, sgI g) else some (1, nI (s ^^^ 2 ^ j), sgI (g ^^ od (s &&& (2 ^ j - 1)))) := by
  have key : b_Mo_climb_17 F (nI j) ((nI s >>> (nI j &&& 31)) &&& 1) (b2 up) (nI s) (sgI g) = if s.testBit j = up then some (0, nI s, sgI g) else some (1, nI (s ^^^ 2 ^ j), sgI (g ^^ od (s &&& (2 ^ j - 1)))) := by
    rw [b_Mo_climb_17, bit_all s hs j hj]
    by_cases c : s.testBit j = up
    · rw [if_pos c, if_pos (by rw [c])]
    · rw [if_neg c, if_neg (fun q => c (b2_eq.mp q)), sh1 j (by omega), show (1 : Int32) = nI 1 from rfl, pk_sub (Nat.one_le_two_pow), nI_and, ones_all hF (and_lt_l hs)]
      simp only [Option.bind_some]
      rw [ckZ, if_neg (by decide), par_rem, ← sgI_xor]
      cases od (s &&& (2 ^ j - 1))
      · rw [if_neg (by decide), b_Mo_climb_50, nm_def, sh1 j (by omega), nI_xor]; rfl
      · rw [if_pos (by decide), nm_def, b_Mo_climb_50, nm_def, sh1 j (by omega), nI_xor]; rfl
  rw [f_Mo_climb]
  cases up
  · rw [if_pos (by decide)]; exact key
  · rw [if_neg (by decide)]; exact key
/-- the steps over a set, from the greatest on: j of its places are left -/
def mk (up : Bool) (S : Nat) : Nat → Bool → Nat → Bool → Bool × Nat × Bool
  | 0, is, s, g => (is, s, g)
  | j + 1, is, s, g => if S.testBit j = true then (if is = true then (if s.testBit j = up then mk up S j false s g else mk up S j true (s ^^^ 2 ^ j) (g ^^ od (s &&& (2 ^ j - 1)))) else mk up S j false s g) else mk up S j is s g
theorem m1 (j : Nat) : nI j + (-1) = nI j - 1 := (Int32.sub_eq_add_neg ..).symm
theorem up_loop {F U : Nat} (hF : 9 ≤ F) (hU : U < 256) : ∀ (j n s : Nat) (is g : Bool), j ≤ 8 → j < n → s < 256 → b_Mo_make_64 F n (nI U) (b2 is) (nI j - 1) (nI s) (sgI g) = some (b2 (mk true U j is s g).1, nI (mk true U j is s g).2.1, sgI (mk true U j is s g).2.2) := by
  intro j
  induction j with
  | zero =>
    intro n s is g h1 h2 h3
    obtain ⟨n, rfl⟩ : ∃ k, n = k + 1 := ⟨n - 1, by omega⟩
    rw [b_Mo_make_64, if_pos (by decide), b2_ck]; rfl
  | succ j ih =>
    intro n s is g h1 h2 h3
    obtain ⟨n, rfl⟩ : ∃ k, n = k + 1 := ⟨n - 1, by omega⟩
    rw [nI_pred, b_Mo_make_64, if_neg (nI_pos (by omega)), bit_all U hU j (by omega)]
    rw [mk]
    by_cases c : U.testBit j = true
    · rw [if_pos c, c, if_pos (by decide)]
      cases is with
      | false =>
        rw [if_pos (by decide), if_neg (by decide), b_Mo_make_98, b_Mo_make_99, b_Mo_make_101, nm_def, m1]
        exact ih n s false g (by omega) (by omega) h3
      | true =>
        rw [if_neg (by decide), if_pos rfl, show (1 : Int32) = b2 true from rfl, climb_all hF h3 (by omega)]
        by_cases c2 : s.testBit j = true
        · rw [if_pos c2, if_pos c2]
          simp only [Option.bind_some]
          rw [if_pos trivial, b_Mo_make_98, b_Mo_make_99, b_Mo_make_101, nm_def, m1]
          exact ih n s false g (by omega) (by omega) h3
        · rw [if_neg c2, if_neg c2]
          simp only [Option.bind_some]
          rw [if_neg (by decide), b_Mo_make_99, b_Mo_make_101, nm_def, m1]
          exact ih n _ true _ (by omega) (by omega) (xor_lt h3 (pow_lt8 (by omega)))
    · have c' : U.testBit j = false := by cases h : U.testBit j; rfl; exact absurd h c
      rw [if_neg c, c', if_neg (by decide), b_Mo_make_101, nm_def, m1]
      exact ih n s is g (by omega) (by omega) h3
theorem down_loop {F U D : Nat} (hF : 9 ≤ F) (hD : D < 256) : ∀ (j n s : Nat) (is g : Bool), j ≤ 8 → j < n → s < 256 → b_Mo_make_17 F n (nI U) (nI D) (b2 is) (nI j - 1) (nI s) (sgI g) = b_Mo_make_64 F F (nI U) (b2 (mk false D j is s g).1) 7 (nI (mk false D j is s g).2.1) (sgI (mk false D j is s g).2.2) := by
  intro j
  induction j with
  | zero =>
    intro n s is g h1 h2 h3
    obtain ⟨n, rfl⟩ : ∃ k, n = k + 1 := ⟨n - 1, by omega⟩
    rw [b_Mo_make_17, if_pos (by decide)]; rfl
  | succ j ih =>
    intro n s is g h1 h2 h3
    obtain ⟨n, rfl⟩ : ∃ k, n = k + 1 := ⟨n - 1, by omega⟩
    rw [nI_pred, b_Mo_make_17, if_neg (nI_pos (by omega)), bit_all D hD j (by omega)]
    rw [mk]
    by_cases c : D.testBit j = true
    · rw [if_pos c, c, if_pos (by decide)]
      cases is with
      | false =>
        rw [if_pos (by decide), if_neg (by decide), b_Mo_make_51, b_Mo_make_52, b_Mo_make_54, nm_def, m1]
        exact ih n s false g (by omega) (by omega) h3
      | true =>
        rw [if_neg (by decide), if_pos rfl, show (0 : Int32) = b2 false from rfl, climb_all hF h3 (by omega)]
        by_cases c2 : s.testBit j = false
        · rw [if_pos c2, if_pos c2]
          simp only [Option.bind_some]
          rw [if_pos (by decide), b_Mo_make_51, b_Mo_make_52, b_Mo_make_54, nm_def, m1]
          exact ih n s false g (by omega) (by omega) h3
        · rw [if_neg c2, if_neg c2]
          simp only [Option.bind_some]
          rw [if_neg (by decide), b_Mo_make_52, b_Mo_make_54, nm_def, m1]
          exact ih n _ true _ (by omega) (by omega) (xor_lt h3 (pow_lt8 (by omega)))
    · have c' : D.testBit j = false := by cases h : D.testBit j; rfl; exact absurd h c
      rw [if_neg c, c', if_neg (by decide), b_Mo_make_54, nm_def, m1]
      exact ih n s is g (by omega) (by omega) h3
