/-! the model's add, whole; the place; what stays -/
theorem toI64 {v : Int} (h1 : -2147483648 ≤ v) (h2 : v < 2147483648) : (Int32.ofInt v).toInt64 = Int64.ofInt v := by
  apply Int64.toInt_inj.mp
  rw [Int32.toInt_toInt64, iI_toInt h1 h2, lI_toInt (by omega) (by omega)]
theorem isState_all {F n : Nat} (hn : n < 31) (x : Int32) : f_Mo_isState F (nI n) x = some (b2 (decide (∃ k, k < 2 ^ n ∧ x = nI k))) := by
  have h := isSet_all (F := F) hn x
  rw [f_FM_isSet] at h
  rw [f_Mo_isState, f_Mo_states]
  exact h
theorem place {len : Nat} {K : Nat → Nat} (hS : ∀ i j, i < j → j < len → K i < K j) (key : Nat) : ∃ p, p ≤ len ∧ (∀ i, i < p → K i < key) ∧ ∀ i, p ≤ i → i < len → key ≤ K i := by
  induction len with
  | zero => exact ⟨0, Nat.le_refl _, fun i h => by omega, fun i h1 h2 => by omega⟩
  | succ len ih =>
    obtain ⟨p, h1, h2, h3⟩ := ih (fun i j a b => hS i j a (by omega))
    by_cases h : p < len
    · refine ⟨p, by omega, h2, fun i a b => ?_⟩
      by_cases e : i = len
      · subst e
        have := h3 p (Nat.le_refl _) h
        have := hS p i h (by omega)
        omega
      · exact h3 i a (by omega)
    · have e : p = len := by omega
      subst e
      by_cases hk : K p < key
      · exact ⟨p + 1, Nat.le_refl _, fun i a => by
          by_cases e : i = p
          · subst e; exact hk
          · exact h2 i (by omega), fun i a b => by omega⟩
      · exact ⟨p, by omega, h2, fun i a b => by
          have e : i = p := by omega
          subst e; omega⟩
theorem AddR.ex {n len : Nat} {K : Nat → Nat} {V : Nat → Int} (hO : SumOk n len K V) (key : Nat) (v : Int) : ∃ ok len' K' V', AddR len K V key v ok len' K' V' := by
  obtain ⟨p, h1, h2, h3⟩ := place hO.2.1 key
  by_cases a : p < len ∧ K p = key
  · by_cases b : Bey (V p + v)
    · exact ⟨false, len, K, V, p, h1, h2, h3, Or.inl ⟨a.1, a.2, Or.inl ⟨b, rfl, rfl, rfl, rfl⟩⟩⟩
    · by_cases c : V p + v = 0
      · exact ⟨true, len - 1, delF K p, delF V p, p, h1, h2, h3, Or.inl ⟨a.1, a.2, Or.inr (Or.inl ⟨c, rfl, by omega, rfl, rfl⟩)⟩⟩
      · exact ⟨true, len, K, updF V p (V p + v), p, h1, h2, h3, Or.inl ⟨a.1, a.2, Or.inr (Or.inr ⟨c, b, rfl, rfl, rfl, rfl⟩)⟩⟩
  · have a' : p < len → K p ≠ key := fun q1 q2 => a ⟨q1, q2⟩
    by_cases b : v = 0
    · exact ⟨true, len, K, V, p, h1, h2, h3, Or.inr ⟨a', Or.inl ⟨b, rfl, rfl, rfl, rfl⟩⟩⟩
    · by_cases c : len < 60
      · exact ⟨true, len + 1, insF K p key, insF V p v, p, h1, h2, h3, Or.inr ⟨a', Or.inr (Or.inr ⟨b, c, rfl, rfl, rfl, rfl⟩)⟩⟩
      · exact ⟨false, len, K, V, p, h1, h2, h3, Or.inr ⟨a', Or.inr (Or.inl ⟨b, by omega, rfl, rfl, rfl, rfl⟩)⟩⟩
theorem AddR.ok {n len len' : Nat} {K K' : Nat → Nat} {V V' : Nat → Int} {key : Nat} {v : Int} {ok : Bool} (hO : SumOk n len K V) (hk1 : key / 256 < 2 ^ n) (hk2 : key % 256 < 2 ^ n) (hv1 : -1000000 ≤ v) (hv2 : v ≤ 1000000) (hA : AddR len K V key v ok len' K' V') : SumOk n len' K' V' := by
  obtain ⟨hl, hs, hv⟩ := hO
  obtain ⟨p, h1, h2, h3, ⟨hp, hKp, hc⟩ | ⟨hno, hc⟩⟩ := hA
  · rcases hc with ⟨-, -, rfl, rfl, rfl⟩ | ⟨h0, -, hl', rfl, rfl⟩ | ⟨h0, hb, -, rfl, rfl, rfl⟩
    · exact ⟨hl, hs, hv⟩
    · refine ⟨by omega, fun i j a b => ?_, fun i a => ?_⟩
      · simp only [delF]
        by_cases q1 : i < p <;> by_cases q2 : j < p
        · rw [if_pos q1, if_pos q2]; exact hs i j a (by omega)
        · rw [if_pos q1, if_neg q2]; exact hs i (j + 1) (by omega) (by omega)
        · omega
        · rw [if_neg q1, if_neg q2]; exact hs (i + 1) (j + 1) (by omega) (by omega)
      · simp only [delF]
        by_cases q1 : i < p
        · rw [if_pos q1, if_pos q1]; exact hv i (by omega)
        · rw [if_neg q1, if_neg q1]; exact hv (i + 1) (by omega)
    · refine ⟨hl, hs, fun i a => ?_⟩
      have := hv i a
      simp only [updF]
      by_cases e : i = p
      · subst e
        rw [if_pos rfl]
        have hb1 : ¬ V i + v < -1000000 := fun q => hb (Or.inl q)
        have hb2 : ¬ 1000000 < V i + v := fun q => hb (Or.inr q)
        exact ⟨h0, by omega, by omega, this.2.2.2⟩
      · rw [if_neg e]; exact this
  · rcases hc with ⟨-, -, rfl, rfl, rfl⟩ | ⟨-, -, -, rfl, rfl, rfl⟩ | ⟨h0, hlt, -, rfl, rfl, rfl⟩
    · exact ⟨hl, hs, hv⟩
    · exact ⟨hl, hs, hv⟩
    · have h3' : ∀ i, p ≤ i → i < len → key < K i := fun i a b => by
        have q := h3 i a b
        have q2 : K p ≠ key := hno (by omega)
        by_cases e : i = p
        · subst e; omega
        · have := hs p i (by omega) b
          have := h3 p (Nat.le_refl _) (by omega)
          omega
      refine ⟨by omega, fun i j a b => ?_, fun i a => ?_⟩
      · simp only [insF]
        by_cases q1 : i < p
        · rw [if_pos q1]
          by_cases q2 : j < p
          · rw [if_pos q2]; exact hs i j a (by omega)
          · rw [if_neg q2]
            by_cases q3 : j = p
            · rw [if_pos q3]; exact h2 i q1
            · rw [if_neg q3]; exact Nat.lt_trans (h2 i q1) (h3' (j - 1) (by omega) (by omega))
        · rw [if_neg q1, if_neg (show ¬ j < p by omega), if_neg (show ¬ j = p by omega)]
          by_cases q3 : i = p
          · rw [if_pos q3]; exact h3' (j - 1) (by omega) (by omega)
          · rw [if_neg q3]; exact hs (i - 1) (j - 1) (by omega) (by omega)
      · simp only [insF]
        by_cases q1 : i < p
        · rw [if_pos q1, if_pos q1]; exact hv i (by omega)
        · rw [if_neg q1, if_neg q1]
          by_cases q3 : i = p
          · rw [if_pos q3, if_pos q3]; exact ⟨h0, hv1, hv2, hk1, hk2⟩
          · rw [if_neg q3, if_neg q3]; exact hv (i - 1) (by omega)
