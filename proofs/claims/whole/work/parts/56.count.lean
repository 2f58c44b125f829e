/-! counting the terms of the image -/
def Gm (n : Nat) (B : Nat → Nat) (M : Nat → Nat → Int) (f s : Nat) : Int := WH n (fun y => M (wrt n B (y ^^^ f)) (wrt n B y)) s
def cnp (g : Nat → Int) : Nat → Nat
  | 0 => 0
  | s + 1 => cnp g s + if g s = 0 then 0 else 1
def cum (N : Nat) (G : Nat → Nat → Int) : Nat → Nat
  | 0 => 0
  | f + 1 => cum N G f + cnp (G f) N
def wS (g : Nat → Int) (f : Nat) : Nat → Nat → Nat
  | 0, w => w
  | s + 1, w => if g s = 0 then wS g f s w else if pc (f ||| s) ≤ wS g f s w then wS g f s w else pc (f ||| s)
def wF (N : Nat) (G : Nat → Nat → Int) : Nat → Nat
  | 0 => 0
  | f + 1 => wS (G f) f N (wF N G f)
theorem cnp_le (g : Nat → Int) : ∀ s, cnp g s ≤ s := by
  intro s
  induction s with
  | zero => exact Nat.le_refl _
  | succ s ih =>
    simp only [cnp]
    by_cases h : g s = 0
    · rw [if_pos h]; omega
    · rw [if_neg h]; omega
theorem cnp_mono (g : Nat → Int) {a : Nat} : ∀ b, a ≤ b → cnp g a ≤ cnp g b := by
  intro b
  induction b with
  | zero => intro h; rw [show a = 0 by omega]; exact Nat.le_refl _
  | succ b ih =>
    intro h
    by_cases e : a = b + 1
    · rw [e]; exact Nat.le_refl _
    · have := ih (by omega)
      simp only [cnp]; omega
theorem cnp_lt (g : Nat → Int) {a b : Nat} (h : a < b) (h0 : g a ≠ 0) : cnp g a < cnp g b := by
  have := cnp_mono g b (show a + 1 ≤ b from h)
  simp only [cnp, if_neg h0] at this
  omega
theorem cum_mono (N : Nat) (G : Nat → Nat → Int) {a : Nat} : ∀ b, a ≤ b → cum N G a ≤ cum N G b := by
  intro b
  induction b with
  | zero => intro h; rw [show a = 0 by omega]; exact Nat.le_refl _
  | succ b ih =>
    intro h
    by_cases e : a = b + 1
    · rw [e]; exact Nat.le_refl _
    · have := ih (by omega)
      simp only [cum]; omega
theorem cum_le (N : Nat) (G : Nat → Nat → Int) : ∀ f, cum N G f ≤ f * N := by
  intro f
  induction f with
  | zero => simp [cum]
  | succ f ih =>
    have := cnp_le (G f) N
    simp only [cum]
    rw [Nat.succ_mul]; omega
/-- a term's place in the order -/
abbrev idx (N : Nat) (G : Nat → Nat → Int) (f s : Nat) : Nat := cum N G f + cnp (G f) s
theorem idx_lt {N : Nat} {G : Nat → Nat → Int} {f s f' s' : Nat} (hs' : s' < N) (h0 : G f' s' ≠ 0) (h : f' < f ∨ f' = f ∧ s' < s) : idx N G f' s' < idx N G f s := by
  rcases h with h | ⟨rfl, h⟩
  · have h1 := cum_mono N G f (show f' + 1 ≤ f from h)
    have h2 := cnp_lt (G f') hs' h0
    simp only [cum] at h1
    show cum N G f' + cnp (G f') s' < cum N G f + cnp (G f) s
    omega
  · have := cnp_lt (G f') h h0
    show cum N G f' + cnp (G f') s' < cum N G f' + cnp (G f') s
    omega
theorem idx_inj {N : Nat} {G : Nat → Nat → Int} {f s f' s' : Nat} (hs : s < N) (hs' : s' < N) (h0 : G f s ≠ 0) (h0' : G f' s' ≠ 0) (h : idx N G f' s' = idx N G f s) : f' = f ∧ s' = s := by
  rcases Nat.lt_trichotomy f' f with q | q | q
  · have := idx_lt (s := s) hs' h0' (Or.inl q); omega
  · subst q
    rcases Nat.lt_trichotomy s' s with r | r | r
    · have := idx_lt hs' h0' (Or.inr ⟨rfl, r⟩); omega
    · exact ⟨rfl, r⟩
    · have := idx_lt hs h0 (Or.inr ⟨rfl, r⟩); omega
  · have := idx_lt (s := s') hs h0 (Or.inl q); omega
theorem cnp_surj (g : Nat → Int) {k : Nat} : ∀ s, k < cnp g s → ∃ s', s' < s ∧ g s' ≠ 0 ∧ cnp g s' = k := by
  intro s
  induction s with
  | zero => intro h; simp [cnp] at h
  | succ s ih =>
    intro h
    by_cases q : k < cnp g s
    · obtain ⟨s', a, b, c⟩ := ih q
      exact ⟨s', by omega, b, c⟩
    · simp only [cnp] at h
      by_cases h0 : g s = 0
      · rw [if_pos h0] at h; omega
      · rw [if_neg h0] at h
        exact ⟨s, by omega, h0, by omega⟩
theorem idx_surj {N : Nat} {G : Nat → Nat → Int} {k : Nat} : ∀ f, k < cum N G f → ∃ f' s', f' < f ∧ s' < N ∧ G f' s' ≠ 0 ∧ idx N G f' s' = k := by
  intro f
  induction f with
  | zero => intro h; simp [cum] at h
  | succ f ih =>
    intro h
    by_cases q : k < cum N G f
    · obtain ⟨f', s', a, b, c, d⟩ := ih q
      exact ⟨f', s', by omega, b, c, d⟩
    · simp only [cum] at h
      obtain ⟨s', a, b, c⟩ := cnp_surj (G f) (k := k - cum N G f) N (by omega)
      exact ⟨f, s', by omega, a, b, by show cum N G f + cnp (G f) s' = k; omega⟩
theorem wS_le {g : Nat → Int} {f : Nat} : ∀ s w, w ≤ 16 → wS g f s w ≤ 16 := by
  intro s
  induction s with
  | zero => intro w h; exact h
  | succ s ih =>
    intro w h
    have h1 := ih w h
    have h2 := pc_le (f ||| s)
    simp only [wS]
    by_cases q : g s = 0
    · rw [if_pos q]; exact h1
    · rw [if_neg q]
      by_cases r : pc (f ||| s) ≤ wS g f s w
      · rw [if_pos r]; exact h1
      · rw [if_neg r]; exact h2
theorem wF_le {N : Nat} {G : Nat → Nat → Int} : ∀ f, wF N G f ≤ 16 := by
  intro f
  induction f with
  | zero => exact Nat.zero_le _
  | succ f ih => exact wS_le N _ ih
theorem ofI_0 {g : Int} (h : Sml g) : Int64.ofInt g = 0 ↔ g = 0 := by
  constructor
  · intro q
    have := congrArg Int64.toInt q
    rw [lI_toInt (by omega) (by omega)] at this
    exact this
  · intro q; rw [q]; rfl
theorem cmp_0 {g : Int} (h : Sml g) : lg_cmp (Int64.ofInt g) 0 = 0 ↔ g = 0 := cmp_eq.trans (ofI_0 h)
theorem half64 {g q : Int} (h : Sml g) (e : g = 2 * q) : Int64.ofInt g / 2 = Int64.ofInt q := by
  have h1 := Int64.ofInt_tdiv (a := g) (b := 2) (by have : Int64.minValue.toInt = -9223372036854775808 := by decide
                                                    omega) (by have : Int64.maxValue.toInt = 9223372036854775807 := by decide
                                                               omega) (by decide) (by decide)
  have h2 : g.tdiv 2 = q := by rw [e]; exact Int.mul_tdiv_cancel_left q (by decide)
  rw [h2] at h1
  exact h1.symm
theorem odd64 {g : Int} (h : Sml g) : lg_cmp (Int64.ofInt g - Int64.ofInt g / 2 * 2) 0 = 0 ↔ ∃ q, g = 2 * q := by
  have h1 := Int64.ofInt_tdiv (a := g) (b := 2) (by have : Int64.minValue.toInt = -9223372036854775808 := by decide
                                                    omega) (by have : Int64.maxValue.toInt = 9223372036854775807 := by decide
                                                               omega) (by decide) (by decide)
  have h1 : Int64.ofInt (g.tdiv 2) = Int64.ofInt g / 2 := h1
  rw [← h1, show (2 : Int64) = Int64.ofInt 2 from rfl, ← Int64.ofInt_mul, ← Int64.ofInt_sub]
  have h2 := Int.mul_tdiv_add_tmod g 2
  have h3 : -2 < g.tmod 2 ∧ g.tmod 2 < 2 := by
    constructor
    · exact Int.lt_tmod_of_pos g (by decide)
    · exact Int.tmod_lt_of_pos g (by decide)
  rw [cmp_0 (by constructor <;> omega)]
  constructor
  · intro q; exact ⟨g.tdiv 2, by omega⟩
  · rintro ⟨q, e⟩
    have : g.tmod 2 = 0 := by rw [e]; exact Int.mul_tmod_right 2 q
    omega
theorem ckZl_2 {β : Type} (k : Option β) : ckZl 2 k = k := by unfold ckZl; rw [if_neg (by decide)]
