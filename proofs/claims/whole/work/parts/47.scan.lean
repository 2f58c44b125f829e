/-! the row of all keys whose number isn't 0, in order -/
theorem updF_at {α : Type} (f : Nat → α) (k : Nat) (x : α) : updF f k x k = x := by simp [updF]
theorem updF_ne {α : Type} {f : Nat → α} {k j : Nat} {x : α} (h : j ≠ k) : updF f k x j = f j := by simp [updF, h]
def Scan (c : Nat → Int) (k m : Nat) (K : Nat → Nat) (V : Nat → Int) : Prop :=
  m ≤ 60 ∧ (∀ i j, i < j → j < m → K i < K j) ∧ (∀ i, i < m → K i < k ∧ V i = c (K i) ∧ V i ≠ 0 ∧ ¬ Bey (V i)) ∧ ∀ x, x < k → c x ≠ 0 → ∃ i, i < m ∧ K i = x
theorem Scan.nil (c : Nat → Int) (K : Nat → Nat) (V : Nat → Int) : Scan c 0 0 K V := ⟨by omega, fun i j _ h => by omega, fun i h => by omega, fun x h => by omega⟩
theorem Scan.skip {c : Nat → Int} {k k' m : Nat} {K : Nat → Nat} {V : Nat → Int} (h : Scan c k m K V) (hk : k ≤ k') (hz : ∀ x, k ≤ x → x < k' → c x = 0) : Scan c k' m K V := by
  refine ⟨h.1, h.2.1, fun i hi => ?_, fun x hx hc => ?_⟩
  · obtain ⟨a, b⟩ := h.2.2.1 i hi
    exact ⟨by omega, b⟩
  · by_cases q : x < k
    · exact h.2.2.2 x q hc
    · exact absurd (hz x (by omega) hx) hc
theorem Scan.push {c : Nat → Int} {k m : Nat} {K : Nat → Nat} {V : Nat → Int} (h : Scan c k m K V) (h0 : c k ≠ 0) (hb : ¬ Bey (c k)) (hm : m < 60) : Scan c (k + 1) (m + 1) (updF K m k) (updF V m (c k)) := by
  refine ⟨by omega, fun i j hij hj => ?_, fun i hi => ?_, fun x hx hc => ?_⟩
  · by_cases e : j = m
    · subst e
      rw [updF_at, updF_ne (by omega)]
      exact (h.2.2.1 i hij).1
    · rw [updF_ne e, updF_ne (by omega)]
      exact h.2.1 i j hij (by omega)
  · by_cases e : i = m
    · subst e; rw [updF_at, updF_at]; exact ⟨by omega, rfl, h0, hb⟩
    · rw [updF_ne e, updF_ne e]
      obtain ⟨a, b⟩ := h.2.2.1 i (by omega)
      exact ⟨by omega, b⟩
  · by_cases e : x = k
    · exact ⟨m, by omega, by rw [updF_at, e]⟩
    · obtain ⟨i, hi, e2⟩ := h.2.2.2 x (by omega) hc
      exact ⟨i, by omega, by rw [updF_ne (by omega), e2]⟩
theorem Scan.le {c : Nat → Int} {k m m' : Nat} {K K' : Nat → Nat} {V V' : Nat → Int} (h : Scan c k m K V) (h' : Scan c k m' K' V') : ∀ i, i < m → i < m' ∧ K i = K' i := by
  intro i
  induction i using Nat.strongRecOn with
  | ind i ih =>
    intro hi
    obtain ⟨a1, a2, a3, _⟩ := h.2.2.1 i hi
    obtain ⟨j', hj', e'⟩ := h'.2.2.2 (K i) a1 (by rw [← a2]; exact a3)
    have h1 : i ≤ j' := by
      rcases Nat.lt_or_ge j' i with q | q
      · have := (ih j' q (by omega)).2
        have := h.2.1 j' i q hi
        omega
      · exact q
    have hi' : i < m' := by omega
    refine ⟨hi', ?_⟩
    have h2 : K' i ≤ K i := by
      rcases Nat.eq_or_lt_of_le h1 with q | q
      · rw [q, e'] ; exact Nat.le_of_eq (by rw [← q])
      · have := h'.2.1 i j' q hj'; omega
    obtain ⟨b1, b2, b3, _⟩ := h'.2.2.1 i hi'
    obtain ⟨j, hj, e⟩ := h.2.2.2 (K' i) b1 (by rw [← b2]; exact b3)
    have h3 : i ≤ j := by
      rcases Nat.lt_or_ge j i with q | q
      · have := (ih j q (by omega)).2
        have := h'.2.1 j i q hi'
        omega
      · exact q
    have h4 : K i ≤ K' i := by
      rcases Nat.eq_or_lt_of_le h3 with q | q
      · rw [← e, ← q]; exact Nat.le_refl _
      · have := h.2.1 i j q hj; omega
    omega
theorem Scan.uniq {c : Nat → Int} {k m m' : Nat} {K K' : Nat → Nat} {V V' : Nat → Int} (h : Scan c k m K V) (h' : Scan c k m' K' V') : m = m' ∧ ∀ i, i < m → K i = K' i ∧ V i = V' i := by
  have h1 : m ≤ m' := by
    rcases Nat.eq_zero_or_pos m with q | q
    · omega
    · have := (h.le h' (m - 1) (by omega)).1; omega
  have h2 : m' ≤ m := by
    rcases Nat.eq_zero_or_pos m' with q | q
    · omega
    · have := (h'.le h (m' - 1) (by omega)).1; omega
  refine ⟨by omega, fun i hi => ?_⟩
  have e := (h.le h' i hi).2
  refine ⟨e, ?_⟩
  rw [(h.2.2.1 i hi).2.1, (h'.2.2.1 i (by omega)).2.1, e]
theorem Scan.cut {c : Nat → Int} {k N m : Nat} {K : Nat → Nat} {V : Nat → Int} (h : Scan c N m K V) (hk : k ≤ N) : ∃ p, p ≤ m ∧ Scan c k p K V ∧ ∀ i, p ≤ i → i < m → k ≤ K i := by
  obtain ⟨p, hp, h1, h2⟩ := place h.2.1 k
  have := h.1
  refine ⟨p, hp, ⟨by omega, fun i j hij hj => h.2.1 i j hij (by omega), fun i hi => ⟨h1 i hi, (h.2.2.1 i (by omega)).2⟩, fun x hx hc => ?_⟩, h2⟩
  obtain ⟨i, hi, e⟩ := h.2.2.2 x (by omega) hc
  refine ⟨i, ?_, e⟩
  rcases Nat.lt_or_ge i p with q | q
  · exact q
  · have := h2 i q hi; omega
theorem Scan.fail {c : Nat → Int} {k N m : Nat} {K : Nat → Nat} {V : Nat → Int} (h : Scan c k m K V) (h0 : c k ≠ 0) (hb : m = 60 ∨ Bey (c k)) (hk : k < N) : ¬ ∃ m' K' V', Scan c N m' K' V' := by
  rintro ⟨m', K', V', h'⟩
  obtain ⟨i, hi, e⟩ := h'.2.2.2 k hk h0
  rcases hb with hb | hb
  · obtain ⟨p, hp, hs, h2⟩ := h'.cut (k := k) (by omega)
    have h3 := (h.uniq hs).1
    have h4 := h'.1
    have h5 := hs.2.2.1 i
    rcases Nat.lt_or_ge i p with q | q
    · have := (h5 q).1; omega
    · omega
  · obtain ⟨_, a, _, b⟩ := h'.2.2.1 i hi
    rw [a, e] at b
    exact b hb
theorem Scan.cong {c : Nat → Int} {k m : Nat} {K K' : Nat → Nat} {V V' : Nat → Int} (h : Scan c k m K V) (e : ∀ i, i < m → K' i = K i ∧ V' i = V i) : Scan c k m K' V' := by
  refine ⟨h.1, fun i j hij hj => ?_, fun i hi => ?_, fun x hx hc => ?_⟩
  · rw [(e i (by omega)).1, (e j hj).1]; exact h.2.1 i j hij hj
  · rw [(e i hi).1, (e i hi).2]; exact h.2.2.1 i hi
  · obtain ⟨i, hi, e2⟩ := h.2.2.2 x hx hc
    exact ⟨i, hi, by rw [(e i hi).1, e2]⟩
/-! sums -/
theorem sumZ_add (f g : Nat → Int) : ∀ n, sumZ n (fun i => f i + g i) = sumZ n f + sumZ n g := by
  intro n
  induction n with
  | zero => rfl
  | succ n ih => simp only [sumZ, ih]; omega
theorem sumZ_cong {f g : Nat → Int} : ∀ {n : Nat}, (∀ i, i < n → f i = g i) → sumZ n f = sumZ n g := by
  intro n
  induction n with
  | zero => intro _; rfl
  | succ n ih => intro h; simp only [sumZ]; rw [ih (fun i hi => h i (by omega)), h n (by omega)]
theorem sumZ_zero {f : Nat → Int} : ∀ {n : Nat}, (∀ i, i < n → f i = 0) → sumZ n f = 0 := by
  intro n
  induction n with
  | zero => intro _; rfl
  | succ n ih => intro h; simp only [sumZ]; rw [ih (fun i hi => h i (by omega)), h n (by omega)]; rfl
theorem sumZ_one {f : Nat → Int} {p : Nat} : ∀ {n : Nat}, p < n → (∀ i, i < n → i ≠ p → f i = 0) → sumZ n f = f p := by
  intro n
  induction n with
  | zero => intro h; omega
  | succ n ih =>
    intro hp h
    simp only [sumZ]
    by_cases e : p = n
    · subst e; rw [sumZ_zero (fun i hi => h i (by omega) (by omega))]; omega
    · rw [ih (by omega) (fun i hi q => h i (by omega) q), h n (by omega) (by omega)]; omega
theorem sumZ_mul (a : Int) (f : Nat → Int) : ∀ n, sumZ n (fun i => a * f i) = a * sumZ n f := by
  intro n
  induction n with
  | zero => simp [sumZ]
  | succ n ih => simp only [sumZ, ih, Int.mul_add]
theorem sumZ_swap (f : Nat → Nat → Int) (m : Nat) : ∀ n, sumZ n (fun i => sumZ m (fun j => f i j)) = sumZ m (fun j => sumZ n (fun i => f i j)) := by
  intro n
  induction n with
  | zero => simp only [sumZ]; rw [sumZ_zero (fun i _ => rfl)]
  | succ n ih => simp only [sumZ, ih]; rw [← sumZ_add]
theorem sumZ_bound {f : Nat → Int} {C : Int} : ∀ {n : Nat}, (∀ i, i < n → -C ≤ f i ∧ f i ≤ C) → -(n * C) ≤ sumZ n f ∧ sumZ n f ≤ n * C := by
  intro n
  induction n with
  | zero => intro _; simp [sumZ]
  | succ n ih =>
    intro h
    have h1 := ih (fun i hi => h i (by omega))
    have h2 := h n (by omega)
    simp only [sumZ]
    have : ((n + 1 : Nat) : Int) * C = n * C + C := by rw [Int.natCast_add, Int.add_mul]; simp
    omega
/-! what a ladder makes of a sum: each product joins, or meets, or both -/
def sgZ (g : Bool) (v : Int) : Int := if g then -v else v
/-- keys without any of jb join, with the sign by jp; keys with all of mb (if mf) meet, with the sign by mp -/
def cl (jb jp mb mp : Nat) (mf : Bool) (len : Nat) (K : Nat → Nat) (V : Nat → Int) (x : Nat) : Int :=
  sumZ len (fun i => (if K i &&& jb = 0 ∧ K i + jb = x then sgZ (od (K i &&& jp)) (V i) else 0) + if mf = true ∧ K i &&& mb = mb ∧ K i - mb = x then sgZ (od (K i &&& mp)) (V i) else 0)
