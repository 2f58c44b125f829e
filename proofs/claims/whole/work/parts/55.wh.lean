/-! sums over all bits with signs -/
def WH (n : Nat) (a : Nat → Int) (s : Nat) : Int := sumZ (2 ^ n) (fun y => sgZ (od (s &&& y)) (a y))
theorem sumZ_app (f : Nat → Int) (a : Nat) : ∀ b, sumZ (a + b) f = sumZ a f + sumZ b (fun i => f (a + i)) := by
  intro b
  induction b with
  | zero => simp [sumZ]
  | succ b ih => rw [← Nat.add_assoc]; simp only [sumZ]; rw [ih]; omega
theorem sumZ_dbl (f : Nat → Int) (n : Nat) : sumZ (2 ^ (n + 1)) f = sumZ (2 ^ n) f + sumZ (2 ^ n) (fun z => f (2 ^ n + z)) := by
  rw [show 2 ^ (n + 1) = 2 ^ n + 2 ^ n by rw [Nat.pow_succ]; omega, sumZ_app]
theorem add_xor {n z : Nat} (h : z < 2 ^ n) : 2 ^ n + z = 2 ^ n ^^^ z := by
  apply Nat.eq_of_testBit_eq
  intro i
  have h1 := Nat.testBit_two_pow_mul_add (i := n) (b := z) 1 h i
  rw [Nat.mul_one] at h1
  rw [Nat.testBit_xor, h1, Nat.testBit_two_pow]
  by_cases q : i < n
  · rw [if_pos q]; simp [show n ≠ i by omega]
  · rw [if_neg q, tb_hi h (by omega)]
    by_cases e : n = i
    · subst e; simp
    · have h0 : (1 : Nat).testBit (i - n) = false := by
        have := Nat.testBit_two_pow (n := 0) (m := i - n)
        rw [Nat.pow_zero] at this
        rw [this, decide_eq_false_iff_not]; omega
      rw [h0]; simp [e]
theorem sgZ_xor (g h : Bool) (v : Int) : sgZ g (sgZ h v) = sgZ (g ^^ h) v := by cases g <;> cases h <;> simp [sgZ]
theorem sgZ_mul (g : Bool) (a v : Int) : sgZ g (a * v) = a * sgZ g v := by cases g <;> simp [sgZ, Int.mul_neg]
theorem orth {x : Nat} {v : Int} (hx : x < 256) : ∀ n, n ≤ 8 → sumZ (2 ^ n) (fun y => sgZ (od (x &&& y)) v) = if x % 2 ^ n = 0 then 2 ^ n * v else 0 := by
  intro n
  induction n with
  | zero =>
    intro _
    rw [if_pos (by rw [Nat.pow_zero]; exact Nat.mod_one x)]
    simp [sumZ, od_zero, sgZ]
  | succ n ih =>
    intro hn
    rw [sumZ_dbl, ih (by omega)]
    have e : sumZ (2 ^ n) (fun z => sgZ (od (x &&& (2 ^ n + z))) v) = sgZ (x.testBit n) (sumZ (2 ^ n) (fun y => sgZ (od (x &&& y)) v)) := by
      rw [sgZ_sum]
      apply sumZ_cong
      intro z hz
      rw [add_xor hz, od_and_l, Nat.and_comm x (2 ^ n), od_bit n (by omega) x hx, sgZ_xor]
    rw [e, ih (by omega)]
    have hm : lo x (n + 1) = x % 2 ^ (n + 1) := rfl
    cases hb : x.testBit n with
    | false =>
      have h1 := lo_succ_f hb
      have h1 : x % 2 ^ (n + 1) = x % 2 ^ n := h1
      rw [h1]
      by_cases q : x % 2 ^ n = 0
      · rw [if_pos q, if_pos q, Int.pow_succ]; simp only [sgZ, Bool.false_eq_true, if_false]
        rw [Int.mul_comm (2 ^ n) 2, Int.mul_assoc]; omega
      · rw [if_neg q, if_neg q]; rfl
    | true =>
      have h2 : ¬ x % 2 ^ (n + 1) = 0 := fun q => by
        have := lo_bit x (n + 1) n
        rw [hm, q, hb] at this
        simp at this
      rw [if_neg h2]
      by_cases q : x % 2 ^ n = 0
      · rw [if_pos q]; simp only [sgZ, if_true]; omega
      · rw [if_neg q]; rfl
theorem WH_WH {n : Nat} (hn : n ≤ 8) (a : Nat → Int) {s : Nat} (hs : s < 2 ^ n) : WH n (WH n a) s = 2 ^ n * a s := by
  have h8 := n8 hn
  have e : WH n (WH n a) s = sumZ (2 ^ n) (fun z => sumZ (2 ^ n) (fun y => sgZ (od ((s ^^^ z) &&& y)) (a z))) := by
    rw [WH]
    have e1 : sumZ (2 ^ n) (fun y => sgZ (od (s &&& y)) (WH n a y)) = sumZ (2 ^ n) (fun y => sumZ (2 ^ n) (fun z => sgZ (od ((s ^^^ z) &&& y)) (a z))) := by
      apply sumZ_cong
      intro y _
      rw [WH, sgZ_sum]
      apply sumZ_cong
      intro z _
      rw [sgZ_xor, od_and_r, Nat.and_comm y z]
    rw [e1, sumZ_swap]
  rw [e, sumZ_one (p := s) hs (fun z hz hne => ?_)]
  · rw [orth (xor_lt (by omega) (by omega)) n hn, Nat.xor_self, if_pos (Nat.zero_mod _)]
  · rw [orth (xor_lt (by omega) (by omega)) n hn, if_neg]
    intro q
    rw [Nat.mod_eq_of_lt (Nat.xor_lt_two_pow hs hz)] at q
    apply hne
    have := congrArg (fun w => w ^^^ s) q
    simp only [Nat.zero_xor] at this
    rw [Nat.xor_comm s z, Nat.xor_assoc, Nat.xor_self, Nat.xor_zero] at this
    exact this
theorem WH_cong {n : Nat} {a b : Nat → Int} (h : ∀ y, y < 2 ^ n → a y = b y) (s : Nat) : WH n a s = WH n b s := sumZ_cong (fun y hy => by rw [h y hy])
theorem WH_mul (n : Nat) (c : Int) (a : Nat → Int) (s : Nat) : WH n (fun y => c * a y) s = c * WH n a s := by
  rw [WH, WH, ← sumZ_mul]
  exact sumZ_cong (fun y _ => sgZ_mul _ _ _)
theorem WH_add (n : Nat) (a b : Nat → Int) (s : Nat) : WH n (fun y => a y + b y) s = WH n a s + WH n b s := by
  rw [WH, WH, WH, ← sumZ_add]
  exact sumZ_cong (fun y _ => sgZ_add _ _ _)
theorem WH_one {n x : Nat} (hx : x < 2 ^ n) (v : Int) (s : Nat) : WH n (fun y => if y = x then v else 0) s = sgZ (od (s &&& x)) v := by
  rw [WH, sumZ_one hx (fun y _ hne => by rw [if_neg hne, sgZ_0]), if_pos rfl]
theorem WH_inv {n : Nat} (hn : n ≤ 8) {N a : Nat → Int} (h : ∀ y, y < 2 ^ n → WH n N y = 2 ^ n * a y) {s : Nat} (hs : s < 2 ^ n) : N s = WH n a s := by
  have e1 := WH_WH hn N hs
  rw [WH_cong h s, WH_mul] at e1
  have hp : (2 : Int) ^ n ≠ 0 := Int.ne_of_gt (Int.pow_pos (by decide))
  exact (Int.eq_of_mul_eq_mul_left hp e1).symm
/-! the same, bit after bit -/
def BF : Nat → (Nat → Int) → Nat → Int
  | 0, a, y => a y
  | l + 1, a, y => if y.testBit l = true then BF l a (y ^^^ 2 ^ l) - BF l a y else BF l a y + BF l a (y ^^^ 2 ^ l)
theorem lo_xor (y l : Nat) : lo (y ^^^ 2 ^ l) l = lo y l := by
  apply Nat.eq_of_testBit_eq
  intro i
  rw [lo_bit, lo_bit]
  by_cases q : i < l
  · rw [tb_o (by omega)]
  · simp [q]
theorem BF_closed {a : Nat → Int} : ∀ l, l ≤ 8 → ∀ y, y < 256 → BF l a y = sumZ (2 ^ l) (fun z => sgZ (od (y &&& z)) (a (y ^^^ lo y l ^^^ z))) := by
  intro l
  induction l with
  | zero =>
    intro _ y _
    have e : lo y 0 = 0 := Nat.mod_one y
    rw [Nat.pow_zero]
    simp only [BF, sumZ]
    rw [e, Nat.and_zero, od_zero, Nat.xor_zero, Nat.xor_zero]
    simp [sgZ]
  | succ l ih =>
    intro hl y hy
    have hp := pow_lt8 (show l < 8 by omega)
    have hyx : y ^^^ 2 ^ l < 256 := xor_lt hy hp
    have i1 := ih (by omega) y hy
    have i2 := ih (by omega) (y ^^^ 2 ^ l) hyx
    rw [lo_xor] at i2
    have i2' : BF l a (y ^^^ 2 ^ l) = sumZ (2 ^ l) (fun z => sgZ (od (y &&& z)) (a (y ^^^ 2 ^ l ^^^ lo y l ^^^ z))) := by
      rw [i2]
      apply sumZ_cong
      intro z hz
      rw [and_skip hz]
    rw [sumZ_dbl, BF]
    cases hb : y.testBit l with
    | false =>
      rw [if_neg (by decide), lo_succ_f hb, i1, i2']
      refine congrArg (fun w => _ + w) ?_
      apply sumZ_cong
      intro z hz
      rw [add_xor hz, od_and_l, Nat.and_comm y (2 ^ l), od_bit l (by omega) y hy, hb, Bool.false_xor]
      rw [Nat.xor_assoc y (2 ^ l), Nat.xor_comm (2 ^ l) (lo y l), ← Nat.xor_assoc y, Nat.xor_assoc (y ^^^ lo y l)]
    | true =>
      rw [if_pos rfl, lo_succ_t hb, i1, i2']
      have e2 : sumZ (2 ^ l) (fun z => sgZ (od (y &&& (2 ^ l + z))) (a (y ^^^ (lo y l ^^^ 2 ^ l) ^^^ (2 ^ l + z)))) = -sumZ (2 ^ l) (fun z => sgZ (od (y &&& z)) (a (y ^^^ lo y l ^^^ z))) := by
        have e3 : -sumZ (2 ^ l) (fun z => sgZ (od (y &&& z)) (a (y ^^^ lo y l ^^^ z))) = sgZ true (sumZ (2 ^ l) (fun z => sgZ (od (y &&& z)) (a (y ^^^ lo y l ^^^ z)))) := rfl
        rw [e3, sgZ_sum]
        apply sumZ_cong
        intro z hz
        rw [add_xor hz, od_and_l, Nat.and_comm y (2 ^ l), od_bit l (by omega) y hy, hb, sgZ_xor]
        rw [← Nat.xor_assoc y, ← Nat.xor_assoc (y ^^^ lo y l ^^^ 2 ^ l), xx]
      have e4 : sumZ (2 ^ l) (fun z => sgZ (od (y &&& z)) (a (y ^^^ 2 ^ l ^^^ lo y l ^^^ z))) = sumZ (2 ^ l) (fun z => sgZ (od (y &&& z)) (a (y ^^^ (lo y l ^^^ 2 ^ l) ^^^ z))) := by
        apply sumZ_cong
        intro z _
        rw [Nat.xor_assoc y (2 ^ l), Nat.xor_comm (2 ^ l) (lo y l)]
      rw [e2, e4]; omega
theorem BF_WH {n y : Nat} {a : Nat → Int} (hn : n ≤ 8) (hy : y < 2 ^ n) : BF n a y = WH n a y := by
  have h8 := n8 hn
  rw [BF_closed n hn y (by omega), WH]
  apply sumZ_cong
  intro z _
  have e : lo y n = y := Nat.mod_eq_of_lt hy
  rw [e, Nat.xor_self, Nat.zero_xor]
/-! the model's butterflies -/
def cb (x l : Nat) : Nat := if x.testBit l = true then x ^^^ 2 ^ l else x
theorem cb_bit (x l : Nat) : (cb x l).testBit l = false := by
  unfold cb
  by_cases h : x.testBit l = true
  · rw [if_pos h, tb_x, h]; rfl
  · rw [if_neg h]; exact bnot_false h
theorem cb_lt {x l n : Nat} (hx : x < 2 ^ n) (hl : l < n) : cb x l < 2 ^ n := by
  unfold cb
  by_cases h : x.testBit l = true
  · rw [if_pos h]; exact Nat.xor_lt_two_pow hx (Nat.pow_lt_pow_right (by decide) hl)
  · rw [if_neg h]; exact hx
theorem addup_in {F n l f : Nat} {k2 : Int32 → Int32 → (Nat → Int64) → Option (Nat → Int64)} {a : Nat → Int} {img0 : Nat → Int64} (hn : n ≤ 8) (hl : l < n) (hf : f < 2 ^ n) :
    ∀ (m d y : Nat) (img : Nat → Int64), d < m → y + d = 2 ^ n → (∀ x, x < 2 ^ n → img (256 * f + x) = Int64.ofInt (if cb x l < y then BF (l + 1) a x else BF l a x)) → (∀ z, (∀ x, x < 2 ^ n → z ≠ 256 * f + x) → img z = img0 z) →
      ∃ img', b_Mo_addUp_12 F k2 (nI n) m (nI (256 * f)) (nI (2 ^ l)) (nI y) img = k2 (nI (256 * f)) (nI (2 ^ (l + 1))) img' ∧ (∀ x, x < 2 ^ n → img' (256 * f + x) = Int64.ofInt (BF (l + 1) a x)) ∧ ∀ z, (∀ x, x < 2 ^ n → z ≠ 256 * f + x) → img' z = img0 z := by
  intro m
  induction m with
  | zero => intro d y img h1; omega
  | succ m ih =>
    intro d y img h1 h2 h3 h4
    have h8 := n8 hn
    have hln : 2 ^ l < 2 ^ n := Nat.pow_lt_pow_right (by decide) hl
    rw [b_Mo_addUp_12, states_all hn]
    simp only [Option.bind_some]
    rw [if_le (by omega) (by omega)]
    cases d with
    | zero =>
      rw [if_pos (by omega), nm_def, show (2 : Int32) = nI 2 from rfl, pk_mul, show 2 * 2 ^ l = 2 ^ (l + 1) by rw [Nat.pow_succ]; omega]
      refine ⟨img, rfl, fun x hx => ?_, h4⟩
      rw [h3 x hx, if_pos (by have := cb_lt hx hl; omega)]
    | succ d =>
      have hy : y < 2 ^ n := by omega
      have hand : y &&& 2 ^ l < 256 := and_lt_l (by omega)
      rw [if_neg (by omega), nI_and, show (0 : Int32) = nI 0 from rfl, if_eqn (by omega) (by omega)]
      obtain ⟨b1, b2', b3, b4⟩ := bit_clr l (by omega) y (by omega)
      cases hb : y.testBit l with
      | false =>
        have hyx : y ^^^ 2 ^ l < 2 ^ n := Nat.xor_lt_two_pow hy hln
        have e1 := b3 hb
        have c1 : cb y l = y := by unfold cb; rw [hb]; rfl
        have c2 : cb (y ^^^ 2 ^ l) l = y := by unfold cb; rw [tb_x, hb]; exact xx y l
        rw [if_pos (b1.mpr hb), nI_add, nI_add, nm_def, ck_n (by omega) (by decide), nm_def, nm_def, ck_n (by omega) (by decide), nm_def, nm_def, ck_n (by omega) (by decide), nm_def, ck_n (by omega) (by decide), nI_clamp (by omega), nI_clamp (by omega)]
        have a1 : img (256 * f + y) = Int64.ofInt (BF l a y) := by rw [h3 y hy, c1, if_neg (by omega)]
        have a2 : img (256 * f + y + 2 ^ l) = Int64.ofInt (BF l a (y ^^^ 2 ^ l)) := by
          rw [Nat.add_assoc, ← e1, h3 _ hyx, c2, if_neg (by omega)]
        rw [a1, a2, ← Int64.ofInt_add, ← Int64.ofInt_sub, b_Mo_addUp_79, nm_def, nI_1]
        refine ih d (y + 1) _ (by omega) (by omega) (fun x hx => ?_) (fun z hz => ?_)
        · by_cases q1 : x = y ^^^ 2 ^ l
          · subst q1
            rw [Nat.add_assoc, ← e1, updL_at, c2, if_pos (by omega), BF, if_pos (by rw [tb_x, hb]; rfl), xx]
          · rw [updL_ne (by omega)]
            by_cases q2 : x = y
            · subst q2
              rw [updL_at, c1, if_pos (by omega), BF, if_neg (by rw [hb]; decide)]
            · rw [updL_ne (by omega), h3 x hx]
              have : cb x l ≠ y := fun q => by
                unfold cb at q
                by_cases r : x.testBit l = true
                · rw [if_pos r] at q; exact q1 (by rw [← q, xx])
                · rw [if_neg r] at q; exact q2 q
              by_cases r : cb x l < y
              · rw [if_pos r, if_pos (by omega)]
              · rw [if_neg r, if_neg (by omega)]
        · have z1 := hz y hy
          have z2 := hz (y ^^^ 2 ^ l) hyx
          rw [updL_ne (by omega), updL_ne (by omega)]; exact h4 z hz
      | true =>
        rw [if_neg (fun q => by rw [b1.mp q] at hb; exact absurd hb (by decide)), b_Mo_addUp_79, nm_def, nI_1]
        refine ih d (y + 1) _ (by omega) (by omega) (fun x hx => ?_) h4
        rw [h3 x hx]
        have : cb x l ≠ y := fun q => by
          have := cb_bit x l
          rw [q, hb] at this
          exact absurd this (by decide)
        by_cases r : cb x l < y
        · rw [if_pos r, if_pos (by omega)]
        · rw [if_neg r, if_neg (by omega)]
theorem addup_out {F n f : Nat} {a : Nat → Int} {img0 : Nat → Int64} (hF : 300 < F) (hn : n ≤ 8) (hf : f < 2 ^ n) :
    ∀ (m d l : Nat) (img : Nat → Int64), d < m → l + d = n → (∀ x, x < 2 ^ n → img (256 * f + x) = Int64.ofInt (BF l a x)) → (∀ z, (∀ x, x < 2 ^ n → z ≠ 256 * f + x) → img z = img0 z) →
      ∃ img', b_Mo_addUp_2 F (nI n) m (nI (256 * f)) (nI (2 ^ l)) img = some img' ∧ (∀ x, x < 2 ^ n → img' (256 * f + x) = Int64.ofInt (BF n a x)) ∧ ∀ z, (∀ x, x < 2 ^ n → z ≠ 256 * f + x) → img' z = img0 z := by
  intro m
  induction m with
  | zero => intro d l img h1; omega
  | succ m ih =>
    intro d l img h1 h2 h3 h4
    have h8 := n8 hn
    have hln : 2 ^ l ≤ 2 ^ n := Nat.pow_le_pow_right (by decide) (by omega)
    rw [b_Mo_addUp_2, states_all hn]
    simp only [Option.bind_some]
    rw [if_le (by omega) (by omega)]
    cases d with
    | zero =>
      have e : l = n := by omega
      subst e
      rw [if_pos (Nat.le_refl _)]
      exact ⟨img, rfl, h3, h4⟩
    | succ d =>
      have hlt : 2 ^ l < 2 ^ n := Nat.pow_lt_pow_right (by decide) (by omega)
      rw [if_neg (by omega)]
      obtain ⟨img', e, g1, g2⟩ := addup_in (F := F) (k2 := b_Mo_addUp_2 F (nI n) m) (a := a) (img0 := img0) hn (show l < n by omega) hf F (2 ^ n) 0 img (by omega) (by omega) (fun x hx => by rw [h3 x hx, if_neg (by omega)]) h4
      have e' : b_Mo_addUp_12 F (b_Mo_addUp_2 F (nI n) m) (nI n) F (nI (256 * f)) (nI (2 ^ l)) 0 img = b_Mo_addUp_2 F (nI n) m (nI (256 * f)) (nI (2 ^ (l + 1))) img' := e
      rw [e']
      exact ih d (l + 1) img' (by omega) (by omega) g1 g2
theorem addup_all {F n f : Nat} {a : Nat → Int} {img : Nat → Int64} (hF : 300 < F) (hn : n ≤ 8) (hf : f < 2 ^ n) (h : ∀ x, x < 2 ^ n → img (256 * f + x) = Int64.ofInt (a x)) :
    ∃ img', f_Mo_addUp F (nI n) img (nI (256 * f)) = some img' ∧ (∀ x, x < 2 ^ n → img' (256 * f + x) = Int64.ofInt (WH n a x)) ∧ ∀ z, (∀ x, x < 2 ^ n → z ≠ 256 * f + x) → img' z = img z := by
  obtain ⟨img', e, g1, g2⟩ := addup_out (F := F) (a := a) (img0 := img) hF hn hf F n 0 img (by omega) (by omega) h (fun z _ => rfl)
  exact ⟨img', e, fun x hx => by rw [g1 x hx, BF_WH hn hx], g2⟩
