/-! what a ladder makes of one product -/
theorem bnot_false {b : Bool} (h : ¬ b = true) : b = false := by cases b; rfl; exact absurd rfl h
theorem acts_tb {U D s : Nat} : acts U D s = true ↔ ∀ i, (s.testBit i && (U.testBit i || D.testBit i)) = D.testBit i := by
  rw [acts, decide_eq_true_iff]
  constructor
  · intro h i
    rw [← Nat.testBit_or, ← Nat.testBit_and, h]
  · intro h
    apply Nat.eq_of_testBit_eq
    intro i
    rw [Nat.testBit_and, Nat.testBit_or]; exact h i
def actx (j U D s : Nat) : Prop := ∀ i, i ≠ j → (s.testBit i && (U.testBit i || D.testBit i)) = D.testBit i
theorem acts_t {j U D s : Nat} (h : actx j U D s) : acts U D s = ((s.testBit j && (U.testBit j || D.testBit j)) == D.testBit j) := by
  rw [Bool.eq_iff_iff, acts_tb, beq_iff_eq]
  exact ⟨fun q => q j, fun q i => by
    by_cases e : i = j
    · rw [e]; exact q
    · exact h i e⟩
theorem acts_f {j U D s : Nat} (h : ¬ actx j U D s) : acts U D s = false := bnot_false (fun q => h (fun i _ => acts_tb.mp q i))
theorem tb_o {x i j : Nat} (h : i ≠ j) : (x ^^^ 2 ^ j).testBit i = x.testBit i := by
  rw [Nat.testBit_xor, Nat.testBit_two_pow]; simp [Ne.symm h]
theorem actx_U {j U D s : Nat} : actx j (U ^^^ 2 ^ j) D s ↔ actx j U D s := forall_congr' fun i => forall_congr' fun h => by rw [tb_o h]
theorem actx_D {j U D s : Nat} : actx j U (D ^^^ 2 ^ j) s ↔ actx j U D s := forall_congr' fun i => forall_congr' fun h => by rw [tb_o h]
theorem actx_s {j U D s : Nat} : actx j U D (s ^^^ 2 ^ j) ↔ actx j U D s := forall_congr' fun i => forall_congr' fun h => by rw [tb_o h]
def ab (j : Nat) : Nat := 255 - (2 ^ j - 1) - 2 ^ j
theorem ob_tb0 : ∀ U, U < 256 → (ob U).testBit 0 = od (U &&& ab 0) := by decide +kernel
theorem ob_tb1 : ∀ U, U < 256 → (ob U).testBit 1 = od (U &&& ab 1) := by decide +kernel
theorem ob_tb2 : ∀ U, U < 256 → (ob U).testBit 2 = od (U &&& ab 2) := by decide +kernel
theorem ob_tb3 : ∀ U, U < 256 → (ob U).testBit 3 = od (U &&& ab 3) := by decide +kernel
theorem ob_tb4 : ∀ U, U < 256 → (ob U).testBit 4 = od (U &&& ab 4) := by decide +kernel
theorem ob_tb5 : ∀ U, U < 256 → (ob U).testBit 5 = od (U &&& ab 5) := by decide +kernel
theorem ob_tb6 : ∀ U, U < 256 → (ob U).testBit 6 = od (U &&& ab 6) := by decide +kernel
theorem ob_tb7 : ∀ U, U < 256 → (ob U).testBit 7 = od (U &&& ab 7) := by decide +kernel
theorem ob_tb : ∀ j, j < 8 → ∀ U, U < 256 → (ob U).testBit j = od (U &&& ab j) := by
  intro j hj
  rcases (show j = 0 ∨ j = 1 ∨ j = 2 ∨ j = 3 ∨ j = 4 ∨ j = 5 ∨ j = 6 ∨ j = 7 by omega) with rfl | rfl | rfl | rfl | rfl | rfl | rfl | rfl
  · exact ob_tb0
  · exact ob_tb1
  · exact ob_tb2
  · exact ob_tb3
  · exact ob_tb4
  · exact ob_tb5
  · exact ob_tb6
  · exact ob_tb7
theorem ab_cut : ∀ j, j < 8 → (2 ^ j - 1) ^^^ 2 ^ j ^^^ ab j = 255 := by decide
theorem od_split : ∀ j, j < 8 → ∀ U, U < 256 → od U = (od (U &&& (2 ^ j - 1)) ^^ U.testBit j ^^ od (U &&& ab j)) := by
  intro j hj U hU
  have e : U &&& 255 = U := by
    rw [show (255 : Nat) = 2 ^ 8 - 1 from rfl, Nat.and_two_pow_sub_one_eq_mod]
    exact Nat.mod_eq_of_lt hU
  have h := od_and_l U ((2 ^ j - 1) ^^^ 2 ^ j) (ab j)
  rw [ab_cut j hj, e, od_and_l, Nat.and_comm U (2 ^ j), od_bit j hj U hU] at h
  exact h
theorem ab_lt : ∀ j, j < 8 → ab j < 256 := by decide
theorem sgn_U {j U D s : Nat} (hj : j < 8) : sgn (U ^^^ 2 ^ j) D s = (sgn U D s ^^ od (s &&& (2 ^ j - 1)) ^^ od (D &&& (2 ^ j - 1))) := by
  rw [sgn, sgn, ob_xor, ob_bit j hj, Nat.xor_assoc, Nat.xor_comm (2 ^ j - 1), ← Nat.xor_assoc, od_and_l s, od_and_l D]
  cases od (s &&& (ob U ^^^ ob D)) <;> cases od (s &&& (2 ^ j - 1)) <;> cases od (D &&& ob U) <;> cases od (D &&& (2 ^ j - 1)) <;> rfl
theorem sgn_D {j U D s : Nat} (hj : j < 8) (hU : U < 256) : sgn U (D ^^^ 2 ^ j) s = (sgn U D s ^^ od (s &&& (2 ^ j - 1)) ^^ od (U &&& ab j)) := by
  rw [sgn, sgn, ob_xor, ob_bit j hj, ← Nat.xor_assoc, od_and_l s, od_and_r D, od_bit j hj _ (ob_lt hU), ob_tb j hj U hU]
  cases od (s &&& (ob U ^^^ ob D)) <;> cases od (s &&& (2 ^ j - 1)) <;> cases od (D &&& ob U) <;> cases od (U &&& ab j) <;> rfl
theorem sgn_s {j U D s : Nat} (hj : j < 8) (hU : U < 256) (hD : D < 256) : sgn U D (s ^^^ 2 ^ j) = (sgn U D s ^^ od (U &&& ab j) ^^ od (D &&& ab j)) := by
  rw [sgn, sgn, od_and_r s, od_bit j hj _ (xor_lt (ob_lt hU) (ob_lt hD)), Nat.testBit_xor, ob_tb j hj U hU, ob_tb j hj D hD]
  cases od (s &&& (ob U ^^^ ob D)) <;> cases od (D &&& ob U) <;> cases od (U &&& ab j) <;> cases od (D &&& ab j) <;> rfl
/-- a product's number, once the states fit -/
def amB (act sg : Bool) (v : Int) : Int := if act = true then sgZ sg v else 0
theorem amp_amB {U D s t : Nat} {v : Int} : amp U D s t v = if s ^^^ D ^^^ U = t then amB (acts U D s) (sgn U D s) v else 0 := by
  cases h : acts U D s
  · rw [amp_none h]; simp [amB]
  · rw [amp_one h]; simp [amB]
theorem core_ua (u d s a b c g : Bool) (v : Int) : (if (!(s ^^ d ^^ u)) = true then sgZ (a ^^ b ^^ c) (amB ((s && (u || d)) == d) g v) else 0) = if u = false then amB ((s && ((!u) || d)) == d) (g ^^ a ^^ b) (sgZ c v) else 0 := by
  cases u <;> cases d <;> cases s <;> simp [amB] <;> cases a <;> cases b <;> cases c <;> cases g <;> simp [sgZ]
theorem core_db (u d s a e f g : Bool) (v : Int) : (if s = false then 0 else sgZ a (amB (((!s) && (u || d)) == d) (g ^^ e ^^ f) v)) = if d = false then amB ((s && (u || (!d))) == (!d)) (g ^^ a ^^ e) (sgZ f v) else 0 := by
  cases u <;> cases d <;> cases s <;> simp [amB] <;> cases a <;> cases e <;> cases f <;> cases g <;> simp [sgZ]
theorem core_ub (u d s a b e f g : Bool) (v : Int) : (if s = true then 0 else sgZ a (amB (((!s) && (u || d)) == d) (g ^^ e ^^ f) v)) = (if u = false then amB ((s && ((!u) || d)) == d) (g ^^ a ^^ b) (sgZ (e ^^ (b ^^ d ^^ f)) v) else 0) + if d = true then amB ((s && (u || (!d))) == (!d)) (g ^^ a ^^ e) (sgZ f v) else 0 := by
  cases u <;> cases d <;> cases s <;> simp [amB] <;> cases a <;> cases b <;> cases e <;> cases f <;> cases g <;> simp [sgZ] <;> omega
theorem core_da (u d s a b c e g : Bool) (v : Int) : (if (!(s ^^ d ^^ u)) = false then sgZ (a ^^ b ^^ c) (amB ((s && (u || d)) == d) g v) else 0) = (if d = false then amB ((s && (u || (!d))) == (!d)) (g ^^ a ^^ e) (sgZ ((c ^^ u ^^ e) ^^ b) v) else 0) + if u = true then amB ((s && ((!u) || d)) == d) (g ^^ a ^^ b) (sgZ c v) else 0 := by
  cases u <;> cases d <;> cases s <;> simp [amB] <;> cases a <;> cases b <;> cases c <;> cases e <;> cases g <;> simp [sgZ] <;> omega
theorem amB_f {g : Bool} {v : Int} : amB false g v = 0 := rfl
theorem sgZ_0 (g : Bool) : sgZ g 0 = 0 := by cases g <;> rfl
theorem lad_ua {j U D s t : Nat} {v : Int} (hj : j < 8) : lmat true true j (fun t s => amp U D s t v) t s = if U.testBit j = false then amp (U ^^^ 2 ^ j) D s t (sgZ (od (U &&& (2 ^ j - 1))) v) else 0 := by
  simp only [lmat, if_true, amp_amB]
  by_cases hE : s ^^^ D ^^^ U = t ^^^ 2 ^ j
  · have hE2 : s ^^^ D ^^^ (U ^^^ 2 ^ j) = t := by rw [← Nat.xor_assoc, hE, xx]
    rw [if_pos hE, if_pos hE2]
    have ht : t.testBit j = !(s.testBit j ^^ D.testBit j ^^ U.testBit j) := by rw [← hE2, ← Nat.xor_assoc, tb_x, Nat.testBit_xor, Nat.testBit_xor]
    have hod : od (t &&& (2 ^ j - 1)) = (od (s &&& (2 ^ j - 1)) ^^ od (D &&& (2 ^ j - 1)) ^^ od (U &&& (2 ^ j - 1))) := by rw [← od_x t j, ← hE, od_and_r, od_and_r]
    by_cases hX : actx j U D s
    · rw [ht, hod, acts_t hX, acts_t (actx_U.mpr hX), tb_x, sgn_U hj]
      exact core_ua _ _ _ _ _ _ _ v
    · rw [acts_f hX, acts_f (fun q => hX (actx_U.mp q))]
      simp only [amB_f, sgZ_0, ite_self]
  · have hE2 : ¬ s ^^^ D ^^^ (U ^^^ 2 ^ j) = t := fun q => hE (by rw [← q, ← Nat.xor_assoc, xx])
    rw [if_neg hE, if_neg hE2]
    simp only [sgZ_0, ite_self]
theorem lad_da {j U D s t : Nat} {v : Int} (hj : j < 8) (hU : U < 256) (hD : D < 256) : lmat false true j (fun t s => amp U D s t v) t s = (if D.testBit j = false then amp U (D ^^^ 2 ^ j) s t (sgZ (od U ^^ od (D &&& (2 ^ j - 1))) v) else 0) + if U.testBit j = true then amp (U ^^^ 2 ^ j) D s t (sgZ (od (U &&& (2 ^ j - 1))) v) else 0 := by
  simp only [lmat, if_true, amp_amB]
  have hDx : s ^^^ (D ^^^ 2 ^ j) ^^^ U = s ^^^ D ^^^ (U ^^^ 2 ^ j) := by
    rw [← Nat.xor_assoc, Nat.xor_assoc (s ^^^ D), Nat.xor_comm (2 ^ j)]
  rw [hDx]
  by_cases hE : s ^^^ D ^^^ U = t ^^^ 2 ^ j
  · have hE2 : s ^^^ D ^^^ (U ^^^ 2 ^ j) = t := by rw [← Nat.xor_assoc, hE, xx]
    simp only [if_pos hE, if_pos hE2]
    have ht : t.testBit j = !(s.testBit j ^^ D.testBit j ^^ U.testBit j) := by rw [← hE2, ← Nat.xor_assoc, tb_x, Nat.testBit_xor, Nat.testBit_xor]
    have hod : od (t &&& (2 ^ j - 1)) = (od (s &&& (2 ^ j - 1)) ^^ od (D &&& (2 ^ j - 1)) ^^ od (U &&& (2 ^ j - 1))) := by rw [← od_x t j, ← hE, od_and_r, od_and_r]
    by_cases hX : actx j U D s
    · rw [ht, hod, acts_t hX, acts_t (actx_U.mpr hX), acts_t (actx_D.mpr hX), tb_x, tb_x, sgn_U hj, sgn_D hj hU, od_split j hj U hU]
      exact core_da _ _ _ _ _ _ _ _ v
    · rw [acts_f hX, acts_f (fun q => hX (actx_U.mp q)), acts_f (fun q => hX (actx_D.mp q))]
      simp only [amB_f, sgZ_0, ite_self]; rfl
  · have hE2 : ¬ s ^^^ D ^^^ (U ^^^ 2 ^ j) = t := fun q => hE (by rw [← q, ← Nat.xor_assoc, xx])
    simp only [if_neg hE, if_neg hE2]
    simp only [sgZ_0, ite_self]; rfl
theorem lad_db {j U D s t : Nat} {v : Int} (hj : j < 8) (hU : U < 256) (hD : D < 256) : lmat false false j (fun t s => amp U D s t v) t s = if D.testBit j = false then amp U (D ^^^ 2 ^ j) s t (sgZ (od (D &&& ab j)) v) else 0 := by
  simp only [lmat, Bool.false_eq_true, if_false, amp_amB]
  have hDx : s ^^^ (D ^^^ 2 ^ j) ^^^ U = s ^^^ 2 ^ j ^^^ D ^^^ U := by
    rw [Nat.xor_comm D, ← Nat.xor_assoc]
  rw [hDx]
  by_cases hE : s ^^^ 2 ^ j ^^^ D ^^^ U = t
  · rw [if_pos hE, if_pos hE]
    by_cases hX : actx j U D s
    · rw [acts_t (actx_s.mpr hX), acts_t (actx_D.mpr hX), tb_x, tb_x, sgn_s hj hU hD, sgn_D hj hU]
      exact core_db _ _ _ _ _ _ _ v
    · rw [acts_f (fun q => hX (actx_s.mp q)), acts_f (fun q => hX (actx_D.mp q))]
      simp only [amB_f, sgZ_0, ite_self]
  · rw [if_neg hE, if_neg hE]
    simp only [sgZ_0, ite_self]
theorem lad_ub {j U D s t : Nat} {v : Int} (hj : j < 8) (hU : U < 256) (hD : D < 256) : lmat true false j (fun t s => amp U D s t v) t s = (if U.testBit j = false then amp (U ^^^ 2 ^ j) D s t (sgZ (od (U &&& ab j) ^^ od D) v) else 0) + if D.testBit j = true then amp U (D ^^^ 2 ^ j) s t (sgZ (od (D &&& ab j)) v) else 0 := by
  simp only [lmat, Bool.false_eq_true, if_false, amp_amB]
  have hDx : s ^^^ (D ^^^ 2 ^ j) ^^^ U = s ^^^ 2 ^ j ^^^ D ^^^ U := by
    rw [Nat.xor_comm D, ← Nat.xor_assoc]
  have hUx : s ^^^ D ^^^ (U ^^^ 2 ^ j) = s ^^^ 2 ^ j ^^^ D ^^^ U := by
    rw [← hDx, ← Nat.xor_assoc, ← Nat.xor_assoc, Nat.xor_assoc (s ^^^ D), Nat.xor_assoc (s ^^^ D), Nat.xor_comm U]
  rw [hDx, hUx]
  by_cases hE : s ^^^ 2 ^ j ^^^ D ^^^ U = t
  · simp only [if_pos hE]
    by_cases hX : actx j U D s
    · rw [acts_t (actx_s.mpr hX), acts_t (actx_D.mpr hX), acts_t (actx_U.mpr hX), tb_x, tb_x, tb_x, sgn_s hj hU hD, sgn_D hj hU, sgn_U hj, od_split j hj D hD]
      exact core_ub _ _ _ _ _ _ _ _ v
    · rw [acts_f (fun q => hX (actx_s.mp q)), acts_f (fun q => hX (actx_D.mp q)), acts_f (fun q => hX (actx_U.mp q))]
      simp only [amB_f, sgZ_0, ite_self]; rfl
  · simp only [if_neg hE]
    simp only [sgZ_0, ite_self]; rfl
