/-! product, makes, and whether the sum keeps the number of modes: both answer alike -/
theorem makes_op {F n len : Nat} {K : Nat → Nat} {V : Nat → Int} {count products thrown a b : Int32} {keys numbers ups downs : Nat → Int32} {num : Nat → Int64} (hF : 300 < F) (hn : n ≤ 8) (hO : SumOk n len K V) (hC : SumC count keys numbers len K V) (hM : SumM products ups downs num len K V) (p1 p2 : Int32) :
    ∃ (o : Option Int64) (r : Int64) (th a' b' : Int32), f_FM_makes F count keys numbers (nI n) p1 p2 = some o ∧ f_Mo_makes F thrown (nI n) products a b ups downs num p1 p2 = some (r, th, a', b') ∧ ((o = none ∧ th = 1) ∨ (o = some r ∧ th = 0)) := by
  have hp8 : 2 ^ n ≤ 256 := Nat.pow_le_pow_right (by decide) hn
  rw [f_FM_makes, f_Mo_makes, isSet_all (by omega), isState_all (by omega)]
  simp only [Option.bind_some]
  by_cases h1 : ∃ k, k < 2 ^ n ∧ p1 = nI k
  · rw [if_neg (fun q => b2_dec.mp q h1), if_neg (fun q => b2_dec.mp q h1), isSet_all (by omega), isState_all (by omega)]
    simp only [Option.bind_some]
    by_cases h2 : ∃ k, k < 2 ^ n ∧ p2 = nI k
    · rw [if_neg (fun q => b2_dec.mp q h2), if_neg (fun q => b2_dec.mp q h2)]
      obtain ⟨s, hs, rfl⟩ := h1
      obtain ⟨t, ht, rfl⟩ := h2
      obtain ⟨rfl, hM2⟩ := hM
      have hl := hO.1
      have e1 := between_loop (F := F) hn hO hC (show s < 256 by omega) (show t < 256 by omega) F 0 (by omega) (by omega)
      obtain ⟨a', b', e2⟩ := mmakes_loop (F := F) (modes := nI n) (thr := 0) (by omega) hn hO ⟨rfl, hM2⟩ (show s < 256 by omega) (show t < 256 by omega) F 0 a b (by omega) (by omega)
      refine ⟨_, _, _, _, _, ?_, e2, Or.inr ⟨rfl, rfl⟩⟩
      rw [f_Su_between]
      have e1' : b_Su_between_5 F count keys numbers F (nI s) (nI t) 0 0 = some (Int64.ofInt (Mat len K V t s)) := e1
      rw [e1']; rfl
    · rw [if_pos (b2_dec.mpr h2), if_pos (b2_dec.mpr h2)]
      exact ⟨_, _, _, _, _, rfl, rfl, Or.inl ⟨rfl, rfl⟩⟩
  · rw [if_pos (b2_dec.mpr h1), if_pos (b2_dec.mpr h1)]
    exact ⟨_, _, _, _, _, rfl, rfl, Or.inl ⟨rfl, rfl⟩⟩
theorem i64_32 {v : Int} (h1 : -2147483648 ≤ v) (h2 : v < 2147483648) : (Int64.ofInt v).toInt32 = Int32.ofInt v := by
  rw [← toI64 h1 h2, Int32.toInt32_toInt64]
theorem product_op {F n len : Nat} {K : Nat → Nat} {V : Nat → Int} {count products thrown : Int32} {keys numbers ups downs : Nat → Int32} {num : Nat → Int64} (hn : n ≤ 8) (hO : SumOk n len K V) (hC : SumC count keys numbers len K V) (hM : SumM products ups downs num len K V) (p1 p2 : Int32) :
    ∃ (o : Option Int32) (r : Int32) (th : Int32), f_FM_product F count keys numbers p1 p2 = some o ∧ f_Mo_product F thrown products ups downs num p1 p2 = some (r, th) ∧ ((o = none ∧ th = 1) ∨ (o = some r ∧ th = 0)) := by
  have hl := hO.1
  obtain ⟨rfl, hM2⟩ := hM
  have bad : ∃ (o : Option Int32) (r : Int32) (th : Int32), some (none : Option Int32) = some o ∧ b_Mo_product_26 F (nI len) ups downs num 0 = some (r, th) ∧ ((o = none ∧ th = 1) ∨ (o = some r ∧ th = 0)) := ⟨_, _, _, rfl, rfl, Or.inl ⟨rfl, rfl⟩⟩
  rw [f_FM_product, f_Mo_product, hC.1]
  by_cases h1 : p1 < 0
  · rw [if_pos h1, if_pos h1]; exact bad
  · rw [if_neg h1, if_neg h1]
    obtain ⟨i, hi, rfl⟩ := nI_of h1
    rw [if_le (by omega) hi, if_le (by omega) hi]
    by_cases h2 : len ≤ i
    · rw [if_pos h2, if_pos h2]; exact bad
    · rw [if_neg h2, if_neg h2]
      by_cases h3 : p2 < 0
      · rw [if_pos h3, if_pos h3]; exact bad
      · rw [if_neg h3, if_neg h3]
        by_cases h4 : p2 ≤ 2
        · rw [if_pos h4, if_pos h4]
          have hil : i < len := by omega
          obtain ⟨k1, k2, k3⟩ := hO.key hn hil
          obtain ⟨g1, g2, g3⟩ := hM2 i hil
          have hV := hO.2.2 i hil
          rw [ups_all hC hl hil k1, downs_all hC hl hil k1, ck_n (by omega) (by decide), ck_n (by omega) (by decide), ck_n (by omega) (by decide), ck_n (by omega) (by decide), nI_clamp (by omega), g1, g2, g3, (hC.2 i hil).2, i64_32 (by omega) (by omega)]
          simp only [Option.bind_some]
          by_cases h5 : p2 = 0
          · rw [if_pos h5, if_pos h5]; exact ⟨_, _, _, rfl, rfl, Or.inr ⟨rfl, rfl⟩⟩
          · rw [if_neg h5, if_neg h5]
            by_cases h6 : p2 = 1
            · rw [if_pos h6, if_pos h6]; exact ⟨_, _, _, rfl, rfl, Or.inr ⟨rfl, rfl⟩⟩
            · rw [if_neg h6, if_neg h6]; exact ⟨_, _, _, rfl, rfl, Or.inr ⟨rfl, rfl⟩⟩
        · rw [if_neg h4, if_neg h4]; exact bad
/-! as many ups as downs -/
def evenB (K : Nat → Nat) : Nat → Nat → Bool
  | 0, _ => true
  | d + 1, i => decide (pc (K i / 256) = pc (K i % 256)) && evenB K d (i + 1)
theorem pc_le (x : Nat) : pc x ≤ 16 := pcn_le 16 x
theorem even_loop {F n0 len : Nat} {K : Nat → Nat} {V : Nat → Int} {c : Int32} {keys numbers : Nat → Int32} (hn : n0 ≤ 8) (hO : SumOk n0 len K V) (hC : SumC c keys numbers len K V) :
    ∀ (n i d : Nat), d < n → i + d = len → b_Su_isEven_2 F c keys n (nI i) = some (b2 (evenB K d i)) := by
  intro n
  induction n with
  | zero => intro i d h1 h2; omega
  | succ n ih =>
    intro i d h1 h2
    have hl := hO.1
    rw [b_Su_isEven_2, hC.1, if_le (by omega) (by omega), ← hC.1]
    cases d with
    | zero => rw [if_pos (by omega)]; rfl
    | succ d =>
      have hil : i < len := by omega
      obtain ⟨k1, k2, k3⟩ := hO.key hn hil
      rw [if_neg (by omega), ups_all hC hl hil k1]
      simp only [Option.bind_some]
      rw [bc_all (by omega)]
      simp only [Option.bind_some]
      rw [downs_all hC hl hil k1]
      simp only [Option.bind_some]
      rw [bc_all (by omega)]
      simp only [Option.bind_some]
      have q1 := pc_le (K i / 256)
      have q2 := pc_le (K i % 256)
      rw [if_eqn (by omega) (by omega), evenB]
      by_cases h : pc (K i / 256) = pc (K i % 256)
      · rw [if_pos h, nm_def, nI_1, ih (i + 1) d (by omega) (by omega)]
        simp [h]
      · rw [if_neg h]; simp [h, b2]
theorem meven_loop {F n0 len : Nat} {K : Nat → Nat} {V : Nat → Int} {ups downs reads : Nat → Int32} {num : Nat → Int64} {modes wk thr ik a b ip im iw : Int32} {mx ig : Nat → Int64} {pl : Nat → Int32} (hF : 9 ≤ F) (hn : n0 ≤ 8) (hO : SumOk n0 len K V) (hM : SumM (nI len) ups downs num len K V) :
    ∀ (n i d m : Nat), d < n → i + d = len → m ≤ i → b_Mo_total_70 F modes (nI len) wk ups downs num reads n (nI m) (nI i) thr ik a b ip im iw mx ig pl = some (b2 (decide (m = 0) && evenB K d i), thr, ik, a, b, ip, im, iw, mx, ig, pl) := by
  intro n
  induction n with
  | zero => intro i d m h1 h2; omega
  | succ n ih =>
    intro i d m h1 h2 h3
    have hl := hO.1
    rw [b_Mo_total_70, if_le (by omega) (by omega)]
    cases d with
    | zero =>
      rw [if_pos (by omega), show (0 : Int32) = nI 0 from rfl, if_eqn (by omega) (by omega)]
      by_cases h : m = 0
      · rw [if_pos h]; simp [h, evenB, b2]
      · rw [if_neg h]; simp [h, b2]; rfl
    | succ d =>
      have hil : i < len := by omega
      obtain ⟨k1, k2, k3⟩ := hO.key hn hil
      obtain ⟨g1, g2, g3⟩ := hM.2 i hil
      rw [if_neg (by omega), ck_n (by omega) (by decide), nI_clamp (by omega), g1, ones_all hF k2]
      simp only [Option.bind_some]
      rw [ck_n (by omega) (by decide), g2, ones_all hF k3]
      simp only [Option.bind_some]
      have q1 := pc_le (K i / 256)
      have q2 := pc_le (K i % 256)
      rw [if_eqn (by omega) (by omega), evenB]
      by_cases h : pc (K i / 256) = pc (K i % 256)
      · rw [if_pos h, b_Mo_total_105, nm_def, nm_def, show (0 : Int32) = nI 0 from rfl, nI_add, nI_1, ih (i + 1) d (m + 0) (by omega) (by omega) (by omega)]
        simp [h]
      · rw [if_neg h, b_Mo_total_105, nm_def, nm_def, nI_1, nI_1, ih (i + 1) d (m + 1) (by omega) (by omega) (by omega)]
        simp [h]
