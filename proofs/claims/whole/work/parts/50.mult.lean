/-! the model's matrix with a ladder ahead or behind -/
def lmat (up ahead : Bool) (j : Nat) (M : Nat → Nat → Int) (t s : Nat) : Int :=
  if ahead = true then (if t.testBit j = up then sgZ (od (t &&& (2 ^ j - 1))) (M (t ^^^ 2 ^ j) s) else 0) else (if s.testBit j = up then 0 else sgZ (od (s &&& (2 ^ j - 1))) (M t (s ^^^ 2 ^ j)))
section
variable {F n0 : Nat} {mx : Nat → Int64} {p1 p2 p3 : Int32}
theorem mzero_in {k3 : Int32 → Int32 → Int32 → Int32 → Int32 → Int32 → (Nat → Int64) → Option (Int32 × Int32 × (Nat → Int64))} {t : Nat} {a b : Int32} (hn : n0 ≤ 8) (ht : t < 2 ^ n0) :
    ∀ (f d s : Nat) (ot : Nat → Int64), d < f → s + d = 2 ^ n0 → (∀ t', t' < t → ∀ s', s' < 2 ^ n0 → ot (256 * t' + s') = 0) → (∀ s', s' < s → ot (256 * t + s') = 0) →
      ∃ ot', b_Mo_multiply_15 F k3 (nI n0) mx f p1 p2 p3 (nI t) (nI s) a b ot = k3 p1 p2 p3 (nI (t + 1)) a b ot' ∧ ∀ t', t' < t + 1 → ∀ s', s' < 2 ^ n0 → ot' (256 * t' + s') = 0 := by
  intro f
  induction f with
  | zero => intro d s ot h1; omega
  | succ f ih =>
    intro d s ot h1 h2 h3 h4
    have h8 := n8 hn
    rw [b_Mo_multiply_15, states_all hn]
    simp only [Option.bind_some]
    rw [if_le (by omega) (by omega)]
    cases d with
    | zero =>
      rw [if_pos (by omega), nm_def, nI_1]
      refine ⟨ot, rfl, fun t' q1 s' q2 => ?_⟩
      by_cases e : t' = t
      · rw [e]; exact h4 s' (by omega)
      · exact h3 t' (by omega) s' q2
    | succ d =>
      rw [if_neg (by omega), ofs, ck_n (by omega) (by decide), nm_def, nI_clamp (by omega), nI_1]
      refine ih d (s + 1) _ (by omega) (by omega) (fun t' q1 s' q2 => ?_) (fun s' q => ?_)
      · rw [updL_ne (by omega)]; exact h3 t' q1 s' q2
      · by_cases e : s' = s
        · rw [e, updL_at]
        · rw [updL_ne (by omega)]; exact h4 s' (by omega)
theorem mzero_out {a b : Int32} (hF : 300 < F) (hn : n0 ≤ 8) :
    ∀ (f d t : Nat) (ot : Nat → Int64), d < f → t + d = 2 ^ n0 → (∀ t', t' < t → ∀ s', s' < 2 ^ n0 → ot (256 * t' + s') = 0) →
      ∃ ot', b_Mo_multiply_3 F (nI n0) mx f p1 p2 p3 (nI t) a b ot = b_Mo_multiply_54 F (nI n0) mx F p1 p2 p3 0 a b ot' ∧ ∀ t', t' < 2 ^ n0 → ∀ s', s' < 2 ^ n0 → ot' (256 * t' + s') = 0 := by
  intro f
  induction f with
  | zero => intro d s ot h1; omega
  | succ f ih =>
    intro d t ot h1 h2 h3
    have h8 := n8 hn
    rw [b_Mo_multiply_3, states_all hn]
    simp only [Option.bind_some]
    rw [if_le (by omega) (by omega)]
    cases d with
    | zero => rw [if_pos (by omega)]; exact ⟨ot, rfl, fun t' q1 => h3 t' (by omega)⟩
    | succ d =>
      rw [if_neg (by omega)]
      obtain ⟨ot', e, h⟩ := mzero_in (F := F) (mx := mx) (p1 := p1) (p2 := p2) (p3 := p3) (k3 := b_Mo_multiply_3 F (nI n0) mx f) (a := a) (b := b) hn (show t < 2 ^ n0 by omega) F (2 ^ n0) 0 ot (by omega) (by omega) h3 (fun s' q => by omega)
      have e' : b_Mo_multiply_15 F (b_Mo_multiply_3 F (nI n0) mx f) (nI n0) mx F p1 p2 p3 (nI t) 0 a b ot = b_Mo_multiply_3 F (nI n0) mx f p1 p2 p3 (nI (t + 1)) a b ot' := e
      rw [e']
      exact ih d (t + 1) ot' (by omega) (by omega) h
theorem mult_in {k54 : Int32 → Int32 → Int32 → Int32 → Int32 → Int32 → (Nat → Int64) → Option (Int32 × Int32 × (Nat → Int64))} {ahead g : Bool} {s s' : Nat} {M f0 : Nat → Nat → Int} (hn : n0 ≤ 8) (hX : MX n0 mx M) (hs : s < 2 ^ n0) (hs' : s' < 2 ^ n0) :
    ∀ (f d t : Nat) (ot : Nat → Int64), d < f → t + d = 2 ^ n0 → MX n0 ot (fun x y => if ahead = true then (if x = s' ∧ y < t then f0 x y + sgZ g (M s y) else f0 x y) else (if y = s ∧ x < t then f0 x y + sgZ g (M x s') else f0 x y)) →
      ∃ ot', b_Mo_multiply_89 F k54 (nI n0) mx f p1 p2 (b2 ahead) (nI s) (nI t) (nI s') (sgI g) ot = k54 p1 p2 (b2 ahead) (nI (s + 1)) (nI s') (sgI g) ot' ∧ MX n0 ot' (fun x y => if ahead = true then (if x = s' then f0 x y + sgZ g (M s y) else f0 x y) else (if y = s then f0 x y + sgZ g (M x s') else f0 x y)) := by
  intro f
  induction f with
  | zero => intro d t ot h1; omega
  | succ f ih =>
    intro d t ot h1 h2 hT
    have h8 := n8 hn
    rw [b_Mo_multiply_89, states_all hn]
    simp only [Option.bind_some]
    rw [if_le (by omega) (by omega)]
    cases d with
    | zero =>
      rw [if_pos (by omega), b_Mo_multiply_189, nm_def, nI_1]
      refine ⟨ot, rfl, hT.cong (fun x hx y hy => ?_)⟩
      cases ahead
      · simp only [Bool.false_eq_true, if_false]
        by_cases e : y = s
        · rw [if_pos ⟨e, by omega⟩, if_pos e]
        · rw [if_neg (fun q => e q.1), if_neg e]
      · simp only [if_true]
        by_cases e : x = s'
        · rw [if_pos ⟨e, by omega⟩, if_pos e]
        · rw [if_neg (fun q => e q.1), if_neg e]
    | succ d =>
      rw [if_neg (by omega)]
      cases ahead
      · rw [if_pos (by decide), ofs, ofs, nm_def, ck_n (by omega) (by decide), nm_def, ck_n (by omega) (by decide), nm_def, ck_n (by omega) (by decide), nI_clamp (by omega), nI_clamp (by omega), hX t (by omega) s' hs', sg_mul, hT t (by omega) s hs, ← Int64.ofInt_add, b_Mo_multiply_183, nm_def, nI_1]
        refine ih d (t + 1) _ (by omega) (by omega) ((hT.upd hn hs _).cong (fun x hx y hy => ?_))
        simp only [Bool.false_eq_true, if_false]
        by_cases e : x = t ∧ y = s
        · rw [if_pos e, e.1, e.2, if_neg (by omega), if_pos (by omega)]
        · rw [if_neg e]
          by_cases e2 : y = s ∧ x < t
          · rw [if_pos e2, if_pos (by omega)]
          · rw [if_neg e2, if_neg (by omega)]
      · rw [if_neg (by decide), ofs, ofs, nm_def, ck_n (by omega) (by decide), nm_def, ck_n (by omega) (by decide), nm_def, ck_n (by omega) (by decide), nI_clamp (by omega), nI_clamp (by omega), hX s hs t (by omega), sg_mul, hT s' hs' t (by omega), ← Int64.ofInt_add, b_Mo_multiply_183, nm_def, nI_1]
        refine ih d (t + 1) _ (by omega) (by omega) ((hT.upd hn (show t < 2 ^ n0 by omega) _).cong (fun x hx y hy => ?_))
        simp only [if_true]
        by_cases e : x = s' ∧ y = t
        · rw [if_pos e, e.1, e.2, if_neg (by omega), if_pos (by omega)]
        · rw [if_neg e]
          by_cases e2 : x = s' ∧ y < t
          · rw [if_pos e2, if_pos (by omega)]
          · rw [if_neg e2, if_neg (by omega)]
theorem xx (t j : Nat) : t ^^^ 2 ^ j ^^^ 2 ^ j = t := by rw [Nat.xor_assoc, Nat.xor_self, Nat.xor_zero]
theorem tb_x (t j : Nat) : (t ^^^ 2 ^ j).testBit j = !t.testBit j := by rw [Nat.testBit_xor, Nat.testBit_two_pow_self]; cases t.testBit j <;> rfl
theorem od_x (t j : Nat) : od ((t ^^^ 2 ^ j) &&& (2 ^ j - 1)) = od (t &&& (2 ^ j - 1)) := by
  rw [and_skip (Nat.sub_lt (Nat.two_pow_pos j) (by decide))]
set_option maxHeartbeats 1000000 in
theorem mult_out {up ahead : Bool} {j : Nat} {M : Nat → Nat → Int} (hF : 300 < F) (hn : n0 ≤ 8) (hj : j < n0) (hX : MX n0 mx M) :
    ∀ (f d s : Nat) (a b : Int32) (ot : Nat → Int64), d < f → s + d = 2 ^ n0 → MX n0 ot (fun x y => if (if ahead = true then x ^^^ 2 ^ j else y) < s then lmat up ahead j M x y else 0) →
      ∃ a' b' ot', b_Mo_multiply_54 F (nI n0) mx f (nI j) (b2 up) (b2 ahead) (nI s) a b ot = some (a', b', ot') ∧ MX n0 ot' (lmat up ahead j M) := by
  intro f
  induction f with
  | zero => intro d s a b ot h1; omega
  | succ f ih =>
    intro d s a b ot h1 h2 hT
    have h8 := n8 hn
    have hjp : 2 ^ j < 2 ^ n0 := Nat.pow_lt_pow_right (by decide) hj
    rw [b_Mo_multiply_54, states_all hn]
    simp only [Option.bind_some]
    rw [if_le (by omega) (by omega)]
    cases d with
    | zero =>
      rw [if_pos (by omega)]
      refine ⟨a, b, ot, rfl, hT.cong (fun x hx y hy => ?_)⟩
      have hx' : x ^^^ 2 ^ j < 2 ^ n0 := Nat.xor_lt_two_pow hx hjp
      cases ahead
      · exact if_pos (by show y < s; omega)
      · exact if_pos (by show x ^^^ 2 ^ j < s; omega)
    | succ d =>
      have hs : s < 2 ^ n0 := by omega
      have hs' : s ^^^ 2 ^ j < 2 ^ n0 := Nat.xor_lt_two_pow hs hjp
      have ec := climb_all (F := F) (g := false) (up := up) (show 9 ≤ F by omega) (show s < 256 by omega) (show j < 8 by omega)
      have ec' : f_Mo_climb F (nI s) 1 (nI j) (b2 up) = if s.testBit j = up then some (0, nI s, sgI false) else some (1, nI (s ^^^ 2 ^ j), sgI (false ^^ od (s &&& (2 ^ j - 1)))) := ec
      rw [if_neg (by omega), ec']
      by_cases hb : s.testBit j = up
      · rw [if_pos hb]
        simp only [Option.bind_some]
        rw [if_pos trivial, b_Mo_multiply_189, nm_def, nI_1]
        refine ih d (s + 1) _ _ _ (by omega) (by omega) (hT.cong (fun x hx y hy => ?_))
        cases ahead
        · show (if y < s then lmat up false j M x y else 0) = if y < s + 1 then lmat up false j M x y else 0
          by_cases e : y = s
          · rw [if_neg (by omega), if_pos (by omega), e]
            simp only [lmat, Bool.false_eq_true, if_false]
            rw [if_pos hb]
          · by_cases e2 : y < s
            · rw [if_pos e2, if_pos (by omega)]
            · rw [if_neg e2, if_neg (by omega)]
        · show (if x ^^^ 2 ^ j < s then lmat up true j M x y else 0) = if x ^^^ 2 ^ j < s + 1 then lmat up true j M x y else 0
          by_cases e : x ^^^ 2 ^ j = s
          · rw [if_neg (by omega), if_pos (by omega)]
            simp only [lmat, if_true]
            have : x.testBit j ≠ up := fun q => by
              have h3 := tb_x x j
              rw [e, hb, q] at h3
              cases up <;> simp at h3
            rw [if_neg this]
          · by_cases e2 : x ^^^ 2 ^ j < s
            · rw [if_pos e2, if_pos (by omega)]
            · rw [if_neg e2, if_neg (by omega)]
      · rw [if_neg hb]
        simp only [Option.bind_some]
        rw [if_neg (by decide), Bool.false_xor]
        obtain ⟨ot', e, h⟩ := mult_in (F := F) (p1 := nI j) (p2 := b2 up) (k54 := b_Mo_multiply_54 F (nI n0) mx f) (ahead := ahead) (g := od (s &&& (2 ^ j - 1))) (f0 := fun x y => if (if ahead = true then x ^^^ 2 ^ j else y) < s then lmat up ahead j M x y else 0) hn hX hs hs' F (2 ^ n0) 0 ot (by omega) (by omega) (hT.cong (fun x hx y hy => by
          have z1 : ¬ (x = s ^^^ 2 ^ j ∧ y < 0) := by omega
          have z2 : ¬ (y = s ∧ x < 0) := by omega
          rw [if_neg z1, if_neg z2, ite_self]))
        have e' : b_Mo_multiply_89 F (b_Mo_multiply_54 F (nI n0) mx f) (nI n0) mx F (nI j) (b2 up) (b2 ahead) (nI s) 0 (nI (s ^^^ 2 ^ j)) (sgI (od (s &&& (2 ^ j - 1)))) ot = b_Mo_multiply_54 F (nI n0) mx f (nI j) (b2 up) (b2 ahead) (nI (s + 1)) (nI (s ^^^ 2 ^ j)) (sgI (od (s &&& (2 ^ j - 1)))) ot' := e
        rw [e']
        refine ih d (s + 1) _ _ _ (by omega) (by omega) (h.cong (fun x hx y hy => ?_))
        cases ahead
        · show (if y = s then (if y < s then lmat up false j M x y else 0) + sgZ (od (s &&& (2 ^ j - 1))) (M x (s ^^^ 2 ^ j)) else (if y < s then lmat up false j M x y else 0)) = if y < s + 1 then lmat up false j M x y else 0
          by_cases e : y = s
          · rw [if_pos e, if_neg (by omega), if_pos (by omega), e]
            simp only [lmat, Bool.false_eq_true, if_false]
            rw [if_neg hb, Int.zero_add]
          · rw [if_neg e]
            by_cases e2 : y < s
            · rw [if_pos e2, if_pos (by omega)]
            · rw [if_neg e2, if_neg (by omega)]
        · show (if x = s ^^^ 2 ^ j then (if x ^^^ 2 ^ j < s then lmat up true j M x y else 0) + sgZ (od (s &&& (2 ^ j - 1))) (M s y) else (if x ^^^ 2 ^ j < s then lmat up true j M x y else 0)) = if x ^^^ 2 ^ j < s + 1 then lmat up true j M x y else 0
          by_cases e : x = s ^^^ 2 ^ j
          · have e3 : x ^^^ 2 ^ j = s := by rw [e, xx]
            rw [if_pos e, if_neg (by omega), if_pos (by omega)]
            simp only [lmat, if_true]
            have : x.testBit j = up := by
              rw [e, tb_x]
              cases h5 : s.testBit j <;> cases up <;> simp [h5] at hb ⊢
            rw [if_pos this, e3, e, od_x, Int.zero_add]
          · rw [if_neg e]
            have e3 : x ^^^ 2 ^ j ≠ s := fun q => e (by rw [← q, xx])
            by_cases e2 : x ^^^ 2 ^ j < s
            · rw [if_pos e2, if_pos (by omega)]
            · rw [if_neg e2, if_neg (by omega)]
theorem mult_all {up ahead : Bool} {j : Nat} {M : Nat → Nat → Int} (hF : 300 < F) (hn : n0 ≤ 8) (hj : j < n0) (hX : MX n0 mx M) (a b : Int32) (ot : Nat → Int64) :
    ∃ a' b' ot', f_Mo_multiply F (nI n0) a b mx ot (nI j) (b2 up) (b2 ahead) = some (a', b', ot') ∧ MX n0 ot' (lmat up ahead j M) := by
  have h8 := n8 hn
  obtain ⟨ot1, e1, h1⟩ := mzero_out (F := F) (mx := mx) (p1 := nI j) (p2 := b2 up) (p3 := b2 ahead) (a := a) (b := b) hF hn F (2 ^ n0) 0 ot (by omega) (by omega) (fun t' q => by omega)
  obtain ⟨a', b', ot', e2, h2⟩ := mult_out (F := F) (up := up) (ahead := ahead) hF hn hj hX F (2 ^ n0) 0 a b ot1 (by omega) (by omega) (fun t ht s hs => by
    rw [h1 t ht s hs]
    dsimp only
    rw [if_neg (Nat.not_lt_zero _)]; rfl)
  refine ⟨a', b', ot', ?_, h2⟩
  have e1' : f_Mo_multiply F (nI n0) a b mx ot (nI j) (b2 up) (b2 ahead) = b_Mo_multiply_54 F (nI n0) mx F (nI j) (b2 up) (b2 ahead) (nI 0) a b ot1 := e1
  rw [e1', e2]
end
