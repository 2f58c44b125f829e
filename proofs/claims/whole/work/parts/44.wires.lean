/-! how states are written on wires -/
def wrt : Nat → (Nat → Nat) → Nat → Nat
  | 0, _, _ => 0
  | k + 1, R, s => wrt k R s ||| (if od (R k &&& s) then 2 ^ k else 0)
theorem tb_if (b : Bool) (k i : Nat) : (if b then 2 ^ k else 0 : Nat).testBit i = (b && decide (k = i)) := by
  cases b
  · simp
  · simp [Nat.testBit_two_pow]
theorem wrt_bit (R : Nat → Nat) (s i : Nat) : ∀ k, (wrt k R s).testBit i = (decide (i < k) && od (R i &&& s)) := by
  intro k
  induction k with
  | zero => simp [wrt]
  | succ k ih =>
    rw [wrt, Nat.testBit_or, ih, tb_if]
    by_cases h1 : i < k
    · simp [h1, show i < k + 1 by omega, show k ≠ i by omega]
    · by_cases h2 : k = i
      · subst h2; simp
      · simp [h1, h2, show ¬ i < k + 1 by omega]
theorem wrt_lt (R : Nat → Nat) (s : Nat) (k : Nat) : wrt k R s < 2 ^ k := by
  apply Nat.lt_pow_two_of_testBit
  intro i hi
  rw [wrt_bit]; simp [show ¬ i < k by omega]
theorem wrt_xor (k : Nat) (R : Nat → Nat) (s t : Nat) : wrt k R (s ^^^ t) = wrt k R s ^^^ wrt k R t := by
  apply Nat.eq_of_testBit_eq
  intro i
  rw [Nat.testBit_xor, wrt_bit, wrt_bit, wrt_bit, od_and_l]
  cases decide (i < k) <;> simp
theorem wrt_zero (k : Nat) (R : Nat → Nat) : wrt k R 0 = 0 := by
  apply Nat.eq_of_testBit_eq
  intro i
  rw [wrt_bit, Nat.and_zero, od_zero]; simp
theorem wrt_cong {k : Nat} {R R' : Nat → Nat} (h : ∀ i, i < k → R i = R' i) (s : Nat) : wrt k R s = wrt k R' s := by
  apply Nat.eq_of_testBit_eq
  intro i
  rw [wrt_bit, wrt_bit]
  by_cases hi : i < k
  · rw [h i hi]
  · simp [hi]
theorem od_bit : ∀ i, i < 8 → ∀ s, s < 256 → od (2 ^ i &&& s) = s.testBit i := by decide +kernel
theorem n8 {n : Nat} (hn : n ≤ 8) : 2 ^ n ≤ 256 := Nat.pow_le_pow_right (by decide) hn
theorem tb_hi {n s i : Nat} (hs : s < 2 ^ n) (hi : n ≤ i) : s.testBit i = false := Nat.testBit_lt_two_pow (Nat.lt_of_lt_of_le hs (Nat.pow_le_pow_right (by decide) hi))
/-- every map of a finite set into itself that keeps members apart reaches all -/
theorem inj_surj : ∀ (N : Nat) (f : Nat → Nat), (∀ i, i < N → f i < N) → (∀ i j, i < N → j < N → f i = f j → i = j) → ∀ y, y < N → ∃ x, x < N ∧ f x = y := by
  intro N
  induction N with
  | zero => intro f _ _ y hy; omega
  | succ N ih =>
    intro f hf hi y hy
    -- the map with the last place taken out
    let g : Nat → Nat := fun i => if f i = N then f N else f i
    have hg : ∀ i, i < N → g i < N := fun i hiN => by
      have h1 := hf i (by omega)
      have h2 := hf N (by omega)
      by_cases h : f i = N
      · have h3 : f N ≠ N := fun q => by have := hi i N (by omega) (by omega) (by rw [h, q]); omega
        show (if f i = N then f N else f i) < N
        rw [if_pos h]; omega
      · show (if f i = N then f N else f i) < N
        rw [if_neg h]; omega
    have hgi : ∀ i j, i < N → j < N → g i = g j → i = j := fun i j h1 h2 h => by
      have h : (if f i = N then f N else f i) = (if f j = N then f N else f j) := h
      by_cases a : f i = N <;> by_cases b : f j = N
      · exact hi i j (by omega) (by omega) (by rw [a, b])
      · rw [if_pos a, if_neg b] at h
        have := hi N j (by omega) (by omega) h; omega
      · rw [if_neg a, if_pos b] at h
        have := hi i N (by omega) (by omega) h; omega
      · rw [if_neg a, if_neg b] at h
        exact hi i j (by omega) (by omega) h
    by_cases hyN : y = f N
    · exact ⟨N, by omega, hyN.symm⟩
    · by_cases hy2 : y = N
      · -- y = N, f N ≠ N
        have h3 : f N < N := by have := hf N (by omega); omega
        obtain ⟨x, hx, e⟩ := ih g hg hgi (f N) h3
        have e : (if f x = N then f N else f x) = f N := e
        by_cases a : f x = N
        · exact ⟨x, by omega, by rw [a, hy2]⟩
        · rw [if_neg a] at e
          have := hi x N (by omega) (by omega) e; omega
      · obtain ⟨x, hx, e⟩ := ih g hg hgi y (by omega)
        have e : (if f x = N then f N else f x) = y := e
        by_cases a : f x = N
        · rw [if_pos a] at e; exact absurd e.symm hyN
        · rw [if_neg a] at e; exact ⟨x, by omega, e⟩
/-- rows and the way back -/
def Inv (n : Nat) (R B : Nat → Nat) : Prop := (∀ w, w < n → R w < 2 ^ n ∧ B w < 2 ^ n) ∧ ∀ s, s < 2 ^ n → wrt n B (wrt n R s) = s
theorem Inv.inj {n : Nat} {R B : Nat → Nat} (h : Inv n R B) {s t : Nat} (hs : s < 2 ^ n) (ht : t < 2 ^ n) (e : wrt n R s = wrt n R t) : s = t := by
  rw [← h.2 s hs, ← h.2 t ht, e]
theorem Inv.surj {n : Nat} {R B : Nat → Nat} (h : Inv n R B) {y : Nat} (hy : y < 2 ^ n) : ∃ s, s < 2 ^ n ∧ wrt n R s = y := inj_surj (2 ^ n) (wrt n R) (fun i _ => wrt_lt R i n) (fun _ _ hi hj e => h.inj hi hj e) y hy
theorem Inv.symm {n : Nat} {R B : Nat → Nat} (h : Inv n R B) {y : Nat} (hy : y < 2 ^ n) : wrt n R (wrt n B y) = y := by
  obtain ⟨s, hs, rfl⟩ := h.surj hy
  rw [h.2 s hs]
theorem b2_ne {b : Bool} : b2 b ≠ 0 ↔ b = true := by cases b <;> decide
theorem bits_loop {F n : Nat} {arr : Nat → Int32} {R : Nat → Nat} {s : Nat} (hn : n ≤ 8) (hs : s < 256) (hR : ∀ w, w < n → arr w = nI (R w) ∧ R w < 256) :
    ∀ (m d k : Nat), d < m → k + d = n → b_Wi_bits_5 F (nI n) arr m (nI s) (nI (wrt k R s)) (nI k) = some (nI (wrt n R s)) := by
  intro m
  induction m with
  | zero => intro d k h1 h2; omega
  | succ m ih =>
    intro d k h1 h2
    rw [b_Wi_bits_5, if_le (by omega) (by omega)]
    cases d with
    | zero => rw [if_pos (by omega), show k = n by omega]
    | succ d =>
      obtain ⟨e1, e2⟩ := hR k (by omega)
      rw [if_neg (by omega), ck_n (by omega) (by decide), nI_clamp (by omega), e1, nI_and, isOdd_all (Nat.lt_trans (and_lt_l e2) (by decide))]
      simp only [Option.bind_some]
      have := ih d (k + 1) (by omega) (by omega)
      rw [wrt] at this
      by_cases h : od (R k &&& s) = true
      · rw [if_pos h] at this
        rw [if_neg (b2_ne.mpr h), nm_def, sh1 k (by omega), nI_or, b_Wi_bits_33, nm_def, nI_1, this]
      · have h' : od (R k &&& s) = false := by cases q : od (R k &&& s); rfl; exact absurd q h
        rw [if_neg h, Nat.or_zero] at this
        rw [if_pos (b2_0.mpr h'), b_Wi_bits_33, nm_def, nI_1, this]
theorem bits_all {F n : Nat} {arr : Nat → Int32} {R : Nat → Nat} {s : Nat} (hF : 20 < F) (hn : n ≤ 8) (hs : s < 256) (hR : ∀ w, w < n → arr w = nI (R w) ∧ R w < 256) : f_Wi_bits F (nI n) arr (nI s) = some (nI (wrt n R s)) := bits_loop hn hs hR F n 0 (by omega) (by omega)
/-! the rows of a way -/
def treeN (w : Nat) : Nat := if w = 0 then 1 else if w = 1 then 3 else if w = 2 then 4 else if w = 3 then 15 else if w = 4 then 16 else if w = 5 then 48 else if w = 6 then 64 else 255
def rowN (T : Nat → Nat) (k w : Nat) : Nat := if k = 0 then 2 ^ w else if k = 1 then 2 ^ (w + 1) - 1 else if k = 2 then treeN w else T w
theorem row_c0 : ∀ w, w < 8 → ∀ k, k < 3 → f_Wi_rowOf 0 (fun _ => 0) (nI k) (nI w) = some (nI (rowN (fun _ => 0) k w)) ∧ f_Mo_setOf 0 (fun _ => 0) (nI k) (nI w) = some (nI (rowN (fun _ => 0) k w)) := by decide +kernel
theorem rowOf_all {F k w : Nat} {told : Nat → Int32} {T : Nat → Nat} (hk : k ≤ 3) (hw : w < 8) (hT : told w = nI (T w)) : f_Wi_rowOf F told (nI k) (nI w) = some (nI (rowN T k w)) ∧ f_Mo_setOf F told (nI k) (nI w) = some (nI (rowN T k w)) := by
  by_cases h3 : k = 3
  · subst h3
    constructor
    · rw [f_Wi_rowOf, if_neg (by decide), if_neg (by decide), if_neg (by decide), ck_n (by omega) (by decide), nI_clamp (by omega), hT]; rfl
    · rw [f_Mo_setOf, if_pos (by decide), ck_n (by omega) (by decide), nI_clamp (by omega), hT]; rfl
  · have e : rowN T k w = rowN (fun _ => 0) k w := by
      simp only [rowN]
      have : k = 0 ∨ k = 1 ∨ k = 2 := by omega
      rcases this with rfl | rfl | rfl <;> simp
    obtain ⟨r1, r2⟩ := row_c0 w hw k (by omega)
    rw [e]
    refine ⟨?_, ?_⟩
    · rw [← r1]
      have : k = 0 ∨ k = 1 ∨ k = 2 := by omega
      rcases this with rfl | rfl | rfl <;> rfl
    · rw [← r2]
      have : k = 0 ∨ k = 1 ∨ k = 2 := by omega
      rcases this with rfl | rfl | rfl <;> rfl
theorem row_lt0 : ∀ n, n ≤ 8 → ∀ w, w < n → ∀ k, k < 3 → rowN (fun _ => 0) k w < 2 ^ n := by decide +kernel
theorem rowN_lt {n k w : Nat} {T : Nat → Nat} (hn : n ≤ 8) (hk : k ≤ 3) (hw : w < n) (hT : T w < 2 ^ n) : rowN T k w < 2 ^ n := by
  have : k = 0 ∨ k = 1 ∨ k = 2 ∨ k = 3 := by omega
  rcases this with rfl | rfl | rfl | rfl
  · exact row_lt0 n hn w hw 0 (by omega)
  · exact row_lt0 n hn w hw 1 (by omega)
  · exact row_lt0 n hn w hw 2 (by omega)
  · exact hT
theorem shb : ∀ w, w < 8 → ∀ b : Bool, b2 b <<< (nI w &&& 31) = nI (if b then 2 ^ w else 0) := by decide +kernel
theorem ckZ_2 {β : Type} (k : Option β) : ckZ 2 k = k := by unfold ckZ; rw [if_neg (by decide)]
theorem write_loop {F n kd : Nat} {rowOf : Nat → Int32} {T : Nat → Nat} {s : Nat} (hF : 9 ≤ F) (hn : n ≤ 8) (hk : kd ≤ 3) (hs : s < 256) (hT : ∀ w, w < n → rowOf w = nI (T w) ∧ T w < 2 ^ n) :
    ∀ (m d k : Nat), d < m → k + d = n → b_Mo_write_5 F (nI n) rowOf m (nI kd) (nI s) (nI (wrt k (rowN T kd) s)) (nI k) = some (nI (wrt n (rowN T kd) s)) := by
  intro m
  induction m with
  | zero => intro d k h1 h2; omega
  | succ m ih =>
    intro d k h1 h2
    rw [b_Mo_write_5, if_le (by omega) (by omega)]
    cases d with
    | zero => rw [if_pos (by omega), show k = n by omega]
    | succ d =>
      obtain ⟨e1, e2⟩ := hT k (by omega)
      have hlt := rowN_lt hn hk (show k < n by omega) e2
      have h8 := n8 hn
      rw [if_neg (by omega), (rowOf_all (F := F) hk (show k < 8 by omega) e1).2]
      simp only [Option.bind_some]
      rw [nI_and, ones_all hF (and_lt_r hs)]
      simp only [Option.bind_some]
      rw [ckZ_2, nm_def, par_rem, shb k (by omega), nI_or, nm_def, nI_1]
      exact ih d (k + 1) (by omega) (by omega)
theorem write_all {F n kd : Nat} {rowOf : Nat → Int32} {T : Nat → Nat} {s : Nat} (hF : 20 < F) (hn : n ≤ 8) (hk : kd ≤ 3) (hs : s < 256) (hT : ∀ w, w < n → rowOf w = nI (T w) ∧ T w < 2 ^ n) : f_Mo_write F (nI n) rowOf (nI kd) (nI s) = some (nI (wrt n (rowN T kd) s)) := write_loop (by omega) hn hk hs hT F n 0 (by omega) (by omega)
