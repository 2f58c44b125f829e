/-! counters -/
theorem ck_n {β : Type} {a n : Nat} {k : Option β} (h : a < n) (hn : n < 2 ^ 31) : ckI (nI a) n k = k := by
  unfold ckI
  rw [if_neg]
  rw [nI_clamp (Nat.lt_trans h hn)]
  rintro (h1 | h1)
  · exact nI_pos (Nat.lt_trans h hn) h1
  · omega
theorem if_le {β : Type} {a b : Nat} {x y : β} (ha : a < 2 ^ 31) (hb : b < 2 ^ 31) : (if nI a ≤ nI b then x else y) = if a ≤ b then x else y := by
  by_cases h : a ≤ b
  · rw [if_pos h, if_pos ((nI_leI ha hb).mpr h)]
  · rw [if_neg h, if_neg (fun q => h ((nI_leI ha hb).mp q))]
theorem if_lt {β : Type} {a b : Nat} {x y : β} (ha : a < 2 ^ 31) (hb : b < 2 ^ 31) : (if nI a < nI b then x else y) = if a < b then x else y := by
  by_cases h : a < b
  · rw [if_pos h, if_pos ((nI_ltI ha hb).mpr h)]
  · rw [if_neg h, if_neg (fun q => h ((nI_ltI ha hb).mp q))]
theorem if_eqn {β : Type} {a b : Nat} {x y : β} (ha : a < 2 ^ 31) (hb : b < 2 ^ 31) : (if nI a = nI b then x else y) = if a = b then x else y := by
  by_cases h : a = b
  · rw [if_pos h, if_pos (by rw [h])]
  · rw [if_neg h, if_neg (fun q => h ((nI_eq ha hb).mp q))]
theorem nm_def {α β : Type} (x : α) (k : α → β) : nm x k = k x := rfl
theorem upd_at (f : Nat → Int32) (k : Nat) (x : Int32) : upd f k x k = x := by simp [upd]
theorem upd_ne {f : Nat → Int32} {k j : Nat} {x : Int32} (h : j ≠ k) : upd f k x j = f j := by simp [upd, h]
/-! a row of the sum, with one place more or less -/
def insF {α : Type} (f : Nat → α) (p : Nat) (x : α) : Nat → α := fun j => if j < p then f j else if j = p then x else f (j - 1)
def delF {α : Type} (f : Nat → α) (p : Nat) : Nat → α := fun j => if j < p then f j else f (j + 1)
/-- what the loop of insert has done when it stands at q -/
theorem insert_loop {F : Nat} {key num : Int32} {keys numbers : Nat → Int32} {p len : Nat} (hp : p ≤ len) (hl : len < 60) :
    ∀ (n q : Nat) (k v : Nat → Int32), q < n + p → p ≤ q → q ≤ len → (∀ j, j < q → k j = keys j ∧ v j = numbers j) → (∀ j, q < j → j ≤ len → k j = keys (j - 1) ∧ v j = numbers (j - 1)) →
      ∃ k' v', b_Su_insert_6 F n (nI p) key num (nI q) (nI len) k v = some (nI (len + 1), k', v') ∧ ∀ j, j ≤ len → k' j = insF keys p key j ∧ v' j = insF numbers p num j := by
  intro n
  induction n with
  | zero => intro q k v h1 h2; omega
  | succ n ih =>
    intro q k v h1 h2 h3 hlo hhi
    rw [b_Su_insert_6, if_le (by omega) (by omega)]
    by_cases hq : q ≤ p
    · have e : q = p := by omega
      subst e
      rw [if_pos hq, ck_n (by omega) (by decide), ck_n (by omega) (by decide), nm_def, nI_clamp (by omega), nI_1]
      refine ⟨_, _, rfl, fun j hj => ?_⟩
      by_cases h4 : j < q
      · rw [upd_ne (by omega), upd_ne (by omega)]
        simp only [insF, if_pos h4]
        exact hlo j h4
      · by_cases h5 : j = q
        · subst h5; simp [insF, upd]
        · rw [upd_ne h5, upd_ne h5]
          simp only [insF, if_neg h4, if_neg h5]
          exact hhi j (by omega) hj
    · rw [if_neg hq]
      simp only [nm_def]
      obtain ⟨q', rfl⟩ : ∃ q', q = q' + 1 := ⟨q - 1, by omega⟩
      rw [nI_pred, ck_n (by omega) (by decide), ck_n (by omega) (by decide), ck_n (by omega) (by decide), ck_n (by omega) (by decide), nI_clamp (by omega), nI_clamp (by omega), pk_m1]
      refine ih q' _ _ (by omega) (by omega) (by omega) (fun j hj => ?_) (fun j hj hj2 => ?_)
      · rw [upd_ne (by omega), upd_ne (by omega)]; exact hlo j (by omega)
      · by_cases h6 : j = q' + 1
        · subst h6
          rw [upd_at, upd_at]
          exact hlo q' (by omega)
        · rw [upd_ne h6, upd_ne h6]; exact hhi j (by omega) hj2
theorem insert_all {F p len : Nat} {key num : Int32} {keys numbers : Nat → Int32} (hp : p ≤ len) (hl : len < 60) (hF : 60 < F) :
    ∃ k' v', f_Su_insert F (nI len) keys numbers (nI p) key num = some (nI (len + 1), k', v') ∧ ∀ j, j ≤ len → k' j = insF keys p key j ∧ v' j = insF numbers p num j := by
  rw [f_Su_insert]
  exact insert_loop hp hl F len keys numbers (by omega) hp (Nat.le_refl _) (fun j _ => ⟨rfl, rfl⟩) (fun j h1 h2 => by omega)
theorem strike_loop {F : Nat} {keys numbers : Nat → Int32} {p len : Nat} (hl : len < 60) :
    ∀ (n q : Nat) (k v : Nat → Int32), len < n + q → p ≤ q → q ≤ len → (∀ j, j < q → k j = delF keys p j ∧ v j = delF numbers p j) → (∀ j, q < j → k j = keys j ∧ v j = numbers j) →
      ∃ k' v', b_Su_strike_12 F n (nI q) (nI len) k v = some (nI len, k', v') ∧ ∀ j, j < len → k' j = delF keys p j ∧ v' j = delF numbers p j := by
  intro n
  induction n with
  | zero => intro q k v h1 h2; omega
  | succ n ih =>
    intro q k v h1 h2 h3 hlo hhi
    rw [b_Su_strike_12, if_le (by omega) (by omega)]
    by_cases hq : len ≤ q
    · rw [if_pos hq]
      exact ⟨_, _, rfl, fun j hj => hlo j (by omega)⟩
    · rw [if_neg hq]
      simp only [nm_def]
      rw [nI_1, ck_n (by omega) (by decide), ck_n (by omega) (by decide), ck_n (by omega) (by decide), ck_n (by omega) (by decide), nI_clamp (by omega), nI_clamp (by omega)]
      refine ih (q + 1) _ _ (by omega) (by omega) (by omega) (fun j hj => ?_) (fun j hj => ?_)
      · by_cases h6 : j = q
        · subst h6
          rw [upd_at, upd_at]
          simp only [delF, if_neg (show ¬ j < p by omega)]
          exact hhi (j + 1) (by omega)
        · rw [upd_ne h6, upd_ne h6]; exact hlo j (by omega)
      · rw [upd_ne (by omega), upd_ne (by omega)]; exact hhi j (by omega)
theorem strike_all {F p len : Nat} {keys numbers : Nat → Int32} (hp : p < len) (hl : len ≤ 60) (hF : 60 < F) :
    ∃ k' v', f_Su_strike F (nI len) keys numbers (nI p) = some (nI (len - 1), k', v') ∧ ∀ j, j < len - 1 → k' j = delF keys p j ∧ v' j = delF numbers p j := by
  rw [f_Su_strike, nm_def]
  obtain ⟨m, rfl⟩ : ∃ m, len = m + 1 := ⟨len - 1, by omega⟩
  rw [nI_pred]
  have h := strike_loop (F := F) (keys := keys) (numbers := numbers) (p := p) (len := m) (by omega) F p keys numbers (by omega) (Nat.le_refl _) (by omega) (fun j hj => by simp [delF, hj]) (fun j _ => ⟨rfl, rfl⟩)
  exact h
