/-- the members below a place -/
def lo (S j : Nat) : Nat := S % 2 ^ j
theorem lo_bit (S j i : Nat) : (lo S j).testBit i = (decide (i < j) && S.testBit i) := Nat.testBit_mod_two_pow S j i
theorem lo_succ_t {S j : Nat} (h : S.testBit j = true) : lo S (j + 1) = lo S j ^^^ 2 ^ j := by
  apply Nat.eq_of_testBit_eq
  intro i
  rw [Nat.testBit_xor, lo_bit, lo_bit, Nat.testBit_two_pow]
  by_cases e : j = i
  · subst e; simp [h]
  · by_cases q : i < j
    · simp [q, show i < j + 1 by omega, e]
    · simp [q, show ¬ i < j + 1 by omega, e]
theorem lo_succ_f {S j : Nat} (h : S.testBit j = false) : lo S (j + 1) = lo S j := by
  apply Nat.eq_of_testBit_eq
  intro i
  rw [lo_bit, lo_bit]
  by_cases e : j = i
  · subst e; simp [h]
  · by_cases q : i < j
    · simp [q, show i < j + 1 by omega]
    · simp [q, show ¬ i < j + 1 by omega]
theorem lo_8 {S : Nat} (h : S < 256) : lo S 8 = S := Nat.mod_eq_of_lt h
theorem lo_lt (S : Nat) {j : Nat} (h : j ≤ 8) : lo S j < 256 := Nat.lt_of_lt_of_le (Nat.mod_lt _ (Nat.two_pow_pos j)) (Nat.pow_le_pow_right (by decide) h)
theorem ob_low : ∀ j, j ≤ 8 → ∀ S, S < 2 ^ j → ob S < 2 ^ j := by decide +kernel
/-- a bit above doesn't count below -/
theorem and_skip {s x j : Nat} (h : x < 2 ^ j) : (s ^^^ 2 ^ j) &&& x = s &&& x := by
  apply Nat.eq_of_testBit_eq
  intro i
  rw [Nat.testBit_and, Nat.testBit_and, Nat.testBit_xor, Nat.testBit_two_pow]
  by_cases e : j = i
  · subst e
    rw [Nat.testBit_lt_two_pow h]; simp
  · simp [e]
theorem mk_false (up : Bool) (S : Nat) : ∀ (j s : Nat) (g : Bool), (mk up S j false s g).1 = false := by
  intro j
  induction j with
  | zero => intro s g; rfl
  | succ j ih =>
    intro s g
    rw [mk]
    by_cases c : S.testBit j = true
    · rw [if_pos c, if_neg (by decide)]; exact ih s g
    · rw [if_neg c]; exact ih s g
/-- fits: the set's members are there (to go down), or not there (to go up) -/
def fitsS (up : Bool) (s x : Nat) : Bool := if up then decide (s &&& x = 0) else decide (s &&& x = x)
theorem fits_bit {up : Bool} {s x : Nat} : fitsS up s x = true ↔ ∀ i, x.testBit i = true → s.testBit i = !up := by
  cases up
  · simp only [fitsS, Bool.false_eq_true, if_false, decide_eq_true_eq, Bool.not_false]
    constructor
    · intro h i hi
      have := congrArg (fun z => Nat.testBit z i) h
      simp only [Nat.testBit_and, hi, Bool.and_true] at this
      exact this
    · intro h
      apply Nat.eq_of_testBit_eq
      intro i
      rw [Nat.testBit_and]
      cases hx : x.testBit i
      · simp
      · rw [h i hx]; rfl
  · simp only [fitsS, if_true, decide_eq_true_eq, Bool.not_true]
    constructor
    · intro h i hi
      have := congrArg (fun z => Nat.testBit z i) h
      simp only [Nat.testBit_and, hi, Bool.and_true, Nat.zero_testBit] at this
      exact this
    · intro h
      apply Nat.eq_of_testBit_eq
      intro i
      rw [Nat.testBit_and, Nat.zero_testBit]
      cases hx : x.testBit i
      · simp
      · rw [h i hx]; rfl
theorem mk_closed (up : Bool) {S : Nat} : ∀ (j s : Nat) (g : Bool), j ≤ 8 → (fitsS up s (lo S j) = true → mk up S j true s g = (true, s ^^^ lo S j, g ^^ od (s &&& ob (lo S j)))) ∧ (fitsS up s (lo S j) = false → (mk up S j true s g).1 = false) := by
  intro j
  induction j with
  | zero =>
    intro s g _
    have e : lo S 0 = 0 := by simp [lo, Nat.mod_one]
    rw [e]
    refine ⟨fun _ => ?_, fun h => ?_⟩
    · simp [mk, ob, od_zero]
    · cases up <;> simp [fitsS] at h
  | succ j ih =>
    intro s g hj
    rw [mk]
    by_cases c : S.testBit j = true
    · rw [if_pos c, if_pos rfl, lo_succ_t c]
      have hlow : lo S j < 2 ^ j := Nat.mod_lt _ (Nat.two_pow_pos j)
      have hb : ∀ i, (lo S j ^^^ 2 ^ j).testBit i = ((lo S j).testBit i || decide (j = i)) := by
        intro i
        rw [Nat.testBit_xor, Nat.testBit_two_pow]
        by_cases e : j = i
        · subst e; rw [Nat.testBit_lt_two_pow hlow]; simp
        · simp [e]
      by_cases c2 : s.testBit j = up
      · rw [if_pos c2]
        refine ⟨fun h => ?_, fun _ => mk_false up S j s g⟩
        have := fits_bit.mp h j (by rw [hb]; simp)
        rw [c2] at this
        cases up <;> cases this
      · rw [if_neg c2]
        have c2' : s.testBit j = !up := by cases h : s.testBit j <;> cases up <;> simp [h] at c2 ⊢
        have hfit : fitsS up (s ^^^ 2 ^ j) (lo S j) = fitsS up s (lo S j ^^^ 2 ^ j) := by
          rw [Bool.eq_iff_iff, fits_bit, fits_bit]
          constructor
          · intro h i hi
            rw [hb] at hi
            by_cases e : j = i
            · subst e; exact c2'
            · have hi' : (lo S j).testBit i = true := by simpa [e] using hi
              have := h i hi'
              rw [Nat.testBit_xor, Nat.testBit_two_pow] at this
              simpa [e] using this
          · intro h i hi
            have e : j ≠ i := fun e => by subst e; rw [Nat.testBit_lt_two_pow hlow] at hi; cases hi
            have := h i (by rw [hb, hi]; rfl)
            rw [Nat.testBit_xor, Nat.testBit_two_pow]
            simpa [e] using this
        obtain ⟨h1, h2⟩ := ih (s ^^^ 2 ^ j) (g ^^ od (s &&& (2 ^ j - 1))) (by omega)
        rw [hfit] at h1 h2
        refine ⟨fun h => ?_, h2⟩
        rw [h1 h]
        have ho : ob (lo S j) < 2 ^ j := ob_low j (by omega) _ hlow
        rw [and_skip ho, ob_xor, ob_bit j (by omega), od_and_l, Nat.xor_assoc, Nat.xor_comm (2 ^ j)]
        congr 2
        cases g <;> cases od (s &&& (2 ^ j - 1)) <;> cases od (s &&& ob (lo S j)) <;> rfl
    · have c' : S.testBit j = false := by cases h : S.testBit j; rfl; exact absurd h c
      rw [if_neg c, lo_succ_f c']
      exact ih s g (by omega)
/-- where a product acts, what it makes, with which sign -/
def acts (U D s : Nat) : Bool := decide (s &&& (U ||| D) = D)
def sgn (U D s : Nat) : Bool := od (s &&& (ob U ^^^ ob D)) ^^ od (D &&& ob U)
theorem acts_iff {U D s : Nat} : acts U D s = (fitsS false s D && fitsS true (s ^^^ D) U) := by
  rw [Bool.eq_iff_iff, Bool.and_eq_true, fits_bit, fits_bit]
  simp only [acts, decide_eq_true_eq]
  constructor
  · intro h
    have hb : ∀ i, (s.testBit i && (U.testBit i || D.testBit i)) = D.testBit i := fun i => by
      have := congrArg (fun z => Nat.testBit z i) h
      simpa only [Nat.testBit_and, Nat.testBit_or] using this
    refine ⟨fun i hi => ?_, fun i hi => ?_⟩
    · have := hb i
      rw [hi] at this
      cases hs : s.testBit i <;> simp [hs] at this ⊢
    · have := hb i
      rw [Nat.testBit_xor]
      rw [hi] at this
      cases hs : s.testBit i <;> cases hd : D.testBit i <;> simp [hs, hd] at this ⊢
  · intro ⟨h1, h2⟩
    apply Nat.eq_of_testBit_eq
    intro i
    rw [Nat.testBit_and, Nat.testBit_or]
    cases hd : D.testBit i <;> cases hu : U.testBit i <;> cases hs : s.testBit i <;> simp
    · have := h2 i hu; rw [Nat.testBit_xor, hs, hd] at this; cases this
    · have := h1 i hd; rw [hs] at this; cases this
    · have := h1 i hd; rw [hs] at this; cases this
theorem mk_lt (up : Bool) (S : Nat) : ∀ (j s : Nat) (is g : Bool), j ≤ 8 → s < 256 → (mk up S j is s g).2.1 < 256 := by
  intro j
  induction j with
  | zero => intro s is g _ h; exact h
  | succ j ih =>
    intro s is g hj h
    rw [mk]
    by_cases c : S.testBit j = true
    · rw [if_pos c]
      by_cases c1 : is = true
      · rw [if_pos c1]
        by_cases c2 : s.testBit j = up
        · rw [if_pos c2]; exact ih s false g (by omega) h
        · rw [if_neg c2]; exact ih _ true _ (by omega) (xor_lt h (pow_lt8 (by omega)))
      · rw [if_neg c1]; exact ih s false g (by omega) h
    · rw [if_neg c]; exact ih s is g (by omega) h
theorem make_all {F U D s : Nat} {a b : Int32} (hF : 9 ≤ F) (hU : U < 256) (hD : D < 256) (hs : s < 256) :
    ∃ t g, f_Mo_make F a b (nI U) (nI D) (nI s) = some (b2 (acts U D s), t, g) ∧ (acts U D s = true → t = nI (s ^^^ D ^^^ U) ∧ g = sgI (sgn U D s)) := by
  obtain ⟨r1, hr1⟩ : ∃ r, r = mk false D 8 true s false := ⟨_, rfl⟩
  obtain ⟨r2, hr2⟩ : ∃ r, r = mk true U 8 r1.1 r1.2.1 r1.2.2 := ⟨_, rfl⟩
  have hl1 : r1.2.1 < 256 := by rw [hr1]; exact mk_lt false D 8 s true false (by decide) hs
  have e : f_Mo_make F a b (nI U) (nI D) (nI s) = some (b2 r2.1, nI r2.2.1, sgI r2.2.2) := by
    rw [f_Mo_make]
    have e1 := down_loop (F := F) (U := U) (D := D) hF hD 8 F s true false (by decide) (by omega) hs
    rw [← hr1] at e1
    have e2 := up_loop (F := F) (U := U) hF hU 8 F r1.2.1 r1.1 r1.2.2 (by decide) (by omega) hl1
    rw [← hr2] at e2
    exact e1.trans e2
  obtain ⟨d1, d2⟩ := mk_closed false (S := D) 8 s false (by decide)
  rw [lo_8 hD, ← hr1] at d1 d2
  cases hf1 : fitsS false s D with
  | false =>
    have hz : r1.1 = false := d2 hf1
    have ha : acts U D s = false := by rw [acts_iff, hf1]; rfl
    have hz2 : r2.1 = false := by rw [hr2, hz]; exact mk_false true U 8 _ _
    exact ⟨_, _, by rw [e, ha, hz2], fun h => by rw [ha] at h; cases h⟩
  | true =>
    have hz := d1 hf1
    obtain ⟨u1, u2⟩ := mk_closed true (S := U) 8 r1.2.1 r1.2.2 (by decide)
    rw [lo_8 hU] at u1 u2
    have hr1b : r1.1 = true := by rw [hz]
    rw [hr1b] at hr2
    rw [← hr2] at u1 u2
    have hr1s : r1.2.1 = s ^^^ D := by rw [hz]
    have hr1g : r1.2.2 = od (s &&& ob D) := by rw [hz]; cases od (s &&& ob D) <;> rfl
    rw [hr1s] at u1 u2
    cases hf2 : fitsS true (s ^^^ D) U with
    | false =>
      have ha : acts U D s = false := by rw [acts_iff, hf1, hf2]; rfl
      have hz2 := u2 hf2
      exact ⟨_, _, by rw [e, ha, hz2], fun h => by rw [ha] at h; cases h⟩
    | true =>
      have ha : acts U D s = true := by rw [acts_iff, hf1, hf2]; rfl
      have hz2 := u1 hf2
      refine ⟨_, _, by rw [e, ha, hz2], fun _ => ⟨rfl, ?_⟩⟩
      rw [hr1g, od_and_r, sgn, od_and_l]
      cases od (s &&& ob D) <;> cases od (s &&& ob U) <;> cases od (D &&& ob U) <;> rfl
