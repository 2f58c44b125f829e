/-! the loop of the model's add -/
section MA
variable {F n0 len : Nat} {K K' : Nat → Nat} {V V' : Nat → Int} {ups downs : Nat → Int32} {num : Nat → Int64} {key : Nat} {x1 x2 x3 ik modes : Int32}
theorem key_of {i : Nat} (hM : SumM (nI len) ups downs num len K V) (hi : i < len) : (256 : Int32) * ups i + downs i = nI (K i) := by
  obtain ⟨h1, h2, -⟩ := hM.2 i hi
  rw [h1, h2, show (256 : Int32) = nI 256 from rfl, pk_mul, nI_add]
  congr 1
  omega
/-- one round with is = 1, good = 1 -/
theorem ma_step {n i m : Nat} {nu nd : Nat → Int32} {nn : Nat → Int64} (hM : SumM (nI len) ups downs num len K V) (hO : SumOk n0 len K V) (hn : n0 ≤ 8) (hk : key < 65536) (hi : i < len) (hne : K i ≠ key) (hm : m < 60) (hN : SumM (nI m) nu nd nn m K' V') (hK' : K' m = K i) (hV' : V' m = V i) :
    ∃ nu' nd' nn', b_Mo_add_64 F modes (n + 1) x1 x2 x3 (nI key) 1 1 (nI i) 0 (nI len) ik (nI m) ups downs num nu nd nn = b_Mo_add_64 F modes n x1 x2 x3 (nI key) 1 1 (nI (i + 1)) 0 (nI len) ik (nI (m + 1)) ups downs num nu' nd' nn' ∧ SumM (nI (m + 1)) nu' nd' nn' (m + 1) K' V' := by
  have hl := hO.1
  have hVi := hO.2.2 i hi
  have hp8 : 2 ^ n0 ≤ 256 := Nat.pow_le_pow_right (by decide) hn
  obtain ⟨g1, g2, g3⟩ := hM.2 i hi
  rw [b_Mo_add_64, if_le (by omega) (by omega), if_neg (by omega), ck_n (by omega) (by decide), ck_n (by omega) (by decide), nm_def, nI_clamp (by omega), key_of hM hi, if_neg (by decide), b_Mo_add_151, if_eqn (by omega) (by omega), if_neg hne, if_neg (by decide), ck_n (by omega) (by decide), ck_n (by omega) (by decide), ck_n (by omega) (by decide), nI_clamp (by omega), g3, put_t hm (by omega) hVi.1 (by intro q; rcases q with q | q <;> omega)]
  simp only [Option.bind_some]
  rw [if_neg (by decide), b_Mo_add_196, b_Mo_add_198, nm_def, nI_1]
  exact ⟨_, _, _, rfl, hN.push (by rw [g1, hK']) (by rw [g2, hK']) (by rw [hV'])⟩
theorem ma_A (hM : SumM (nI len) ups downs num len K V) (hO : SumOk n0 len K V) (hn : n0 ≤ 8) (hk : key < 65536) : ∀ (n i m : Nat) (nu nd : Nat → Int32) (nn : Nat → Int64), len < n + i → i ≤ len → m + (len - i) ≤ 60 → SumM (nI m) nu nd nn m K' V' → (∀ j, i ≤ j → j < len → K' (m + (j - i)) = K j ∧ V' (m + (j - i)) = V j) → (∀ j, i ≤ j → j < len → K j ≠ key) →
    ∃ nu' nd' nn', b_Mo_add_64 F modes n x1 x2 x3 (nI key) 1 1 (nI i) 0 (nI len) ik (nI m) ups downs num nu nd nn = b_Mo_add_232 F modes 1 0 (nI len) ik (nI (m + (len - i))) ups downs num nu' nd' nn' ∧ SumM (nI (m + (len - i))) nu' nd' nn' (m + (len - i)) K' V' := by
  intro n
  induction n with
  | zero => intro i m nu nd nn h1 h2; omega
  | succ n ih =>
    intro i m nu nd nn h1 h2 h3 hN hj hne
    have hl := hO.1
    by_cases hi : len ≤ i
    · have e : len - i = 0 := by omega
      rw [e, b_Mo_add_64, if_le (by omega) (by omega), if_pos hi, if_neg (by decide)]
      exact ⟨_, _, _, rfl, hN⟩
    · obtain ⟨e1, e2⟩ := hj i (Nat.le_refl _) (by omega)
      rw [show m + (i - i) = m by omega] at e1 e2
      obtain ⟨nu', nd', nn', e, hN'⟩ := ma_step (F := F) (n := n) (x1 := x1) (x2 := x2) (x3 := x3) (ik := ik) (modes := modes) hM hO hn hk (show i < len by omega) (hne i (Nat.le_refl _) (by omega)) (show m < 60 by omega) hN e1 e2
      rw [e]
      obtain ⟨a, b, c, e3, h5⟩ := ih (i + 1) (m + 1) nu' nd' nn' (by omega) (by omega) (by omega) hN' (fun j h6 h7 => by
        have := hj j (by omega) h7
        rw [show m + 1 + (j - (i + 1)) = m + (j - i) by omega]; exact this) (fun j h6 h7 => hne j (by omega) h7)
      rw [show m + (len - i) = m + 1 + (len - (i + 1)) by omega]
      exact ⟨a, b, c, e3, h5⟩
theorem ma_B (hM : SumM (nI len) ups downs num len K V) (hO : SumOk n0 len K V) (hn : n0 ≤ 8) (hk : key < 65536) : ∀ (n i : Nat) (nm9 : Int32) (nu nd : Nat → Int32) (nn : Nat → Int64), len < n + i → i ≤ len →
    b_Mo_add_64 F modes n x1 x2 x3 (nI key) 0 1 (nI i) 0 (nI len) ik nm9 ups downs num nu nd nn = b_Mo_add_232 F modes 0 0 (nI len) ik nm9 ups downs num nu nd nn := by
  intro n
  induction n with
  | zero => intro i nm9 nu nd nn h1 h2; omega
  | succ n ih =>
    intro i nm9 nu nd nn h1 h2
    have hl := hO.1
    have hp8 : 2 ^ n0 ≤ 256 := Nat.pow_le_pow_right (by decide) hn
    rw [b_Mo_add_64, if_le (by omega) (by omega)]
    by_cases hi : len ≤ i
    · rw [if_pos hi, if_neg (by decide)]
    · have hVi := hO.2.2 i (by omega)
      rw [if_neg hi, ck_n (by omega) (by decide), ck_n (by omega) (by decide), nm_def, nI_clamp (by omega), key_of hM (by omega), if_neg (by decide), b_Mo_add_151, if_eqn (by omega) (by omega)]
      by_cases hq : K i = key
      · rw [if_pos hq, b_Mo_add_198, nm_def, nI_1]
        exact ih (i + 1) nm9 nu nd nn (by omega) (by omega)
      · rw [if_neg hq, if_pos rfl, b_Mo_add_195, b_Mo_add_196, b_Mo_add_198, nm_def, nI_1]
        exact ih (i + 1) nm9 nu nd nn (by omega) (by omega)
theorem ma_C (hM : SumM (nI len) ups downs num len K V) (hO : SumOk n0 len K V) (hn : n0 ≤ 8) (hk : key < 65536) : ∀ (n i m : Nat) (nu nd : Nat → Int32) (nn : Nat → Int64), len < n + i → i < len → m ≤ 60 → m + (len - i) = 61 → SumM (nI m) nu nd nn m K' V' → (∀ j, i ≤ j → j < len → K' (m + (j - i)) = K j ∧ V' (m + (j - i)) = V j) → (∀ j, i ≤ j → j < len → K j ≠ key) →
    ∃ nm9 nu' nd' nn', b_Mo_add_64 F modes n x1 x2 x3 (nI key) 1 1 (nI i) 0 (nI len) ik (nI m) ups downs num nu nd nn = b_Mo_add_232 F modes 0 0 (nI len) ik nm9 ups downs num nu' nd' nn' := by
  intro n
  induction n with
  | zero => intro i m nu nd nn h1 h2; omega
  | succ n ih =>
    intro i m nu nd nn h1 h2 h3 h4 hN hj hne
    have hl := hO.1
    have hp8 : 2 ^ n0 ≤ 256 := Nat.pow_le_pow_right (by decide) hn
    by_cases hm : m < 60
    · obtain ⟨e1, e2⟩ := hj i (Nat.le_refl _) (by omega)
      rw [show m + (i - i) = m by omega] at e1 e2
      obtain ⟨nu', nd', nn', e, hN'⟩ := ma_step (F := F) (n := n) (x1 := x1) (x2 := x2) (x3 := x3) (ik := ik) (modes := modes) hM hO hn hk (show i < len by omega) (hne i (Nat.le_refl _) (by omega)) hm hN e1 e2
      rw [e]
      exact ih (i + 1) (m + 1) nu' nd' nn' (by omega) (by omega) (by omega) (by omega) hN' (fun j h6 h7 => by
        have := hj j (by omega) h7
        rw [show m + 1 + (j - (i + 1)) = m + (j - i) by omega]; exact this) (fun j h6 h7 => hne j (by omega) h7)
    · have e60 : m = 60 := by omega
      have hVi := hO.2.2 i h2
      rw [b_Mo_add_64, if_le (by omega) (by omega), if_neg (by omega), ck_n (by omega) (by decide), ck_n (by omega) (by decide), nm_def, nI_clamp (by omega), key_of hM h2, if_neg (by decide), b_Mo_add_151, if_eqn (by omega) (by omega), if_neg (hne i (Nat.le_refl _) h2), if_neg (by decide), ck_n (by omega) (by decide), ck_n (by omega) (by decide), ck_n (by omega) (by decide), nI_clamp (by omega), (hM.2 i h2).2.2, put_f h3 (by omega) hVi.1 (Or.inl e60)]
      simp only [Option.bind_some]
      rw [if_pos trivial, b_Mo_add_195, b_Mo_add_196, b_Mo_add_198, nm_def, nI_1]
      exact ⟨_, _, _, _, ma_B hM hO hn hk n (i + 1) _ _ _ _ (by omega) (by omega)⟩
/-- the first phase: up to the place -/
theorem ma_1 (hM : SumM (nI len) ups downs num len K V) (hO : SumOk n0 len K V) (hn : n0 ≤ 8) (hk : key < 65536) {p : Nat} (hp : p ≤ len) (h1 : ∀ i, i < p → K i < key) : ∀ (d i k : Nat) (nu nd : Nat → Int32) (nn : Nat → Int64), i + d = p → SumM (nI i) nu nd nn i K V →
    ∃ nu' nd' nn', b_Mo_add_64 F modes (k + d) x1 x2 x3 (nI key) 1 0 (nI i) 0 (nI len) ik (nI i) ups downs num nu nd nn = b_Mo_add_64 F modes k x1 x2 x3 (nI key) 1 0 (nI p) 0 (nI len) ik (nI p) ups downs num nu' nd' nn' ∧ SumM (nI p) nu' nd' nn' p K V := by
  intro d
  induction d with
  | zero => intro i k nu nd nn e hN; rw [Nat.add_zero] at e; subst e; exact ⟨_, _, _, rfl, hN⟩
  | succ d ih =>
    intro i k nu nd nn e hN
    have hl := hO.1
    have hp8 : 2 ^ n0 ≤ 256 := Nat.pow_le_pow_right (by decide) hn
    have hi : i < len := by omega
    have hVi := hO.2.2 i hi
    have hlt := h1 i (by omega)
    obtain ⟨g1, g2, g3⟩ := hM.2 i hi
    rw [show k + (d + 1) = (k + d) + 1 by omega, b_Mo_add_64, if_le (by omega) (by omega), if_neg (by omega), ck_n (by omega) (by decide), ck_n (by omega) (by decide), nm_def, nI_clamp (by omega), key_of hM hi, if_pos rfl, if_lt (by omega) (by omega), if_pos hlt, b_Mo_add_151, if_eqn (by omega) (by omega), if_neg (by omega), if_neg (by decide), ck_n (by omega) (by decide), ck_n (by omega) (by decide), ck_n (by omega) (by decide), nI_clamp (by omega), g3, put_t (by omega) (by omega) hVi.1 (by intro q; rcases q with q | q <;> omega)]
    simp only [Option.bind_some]
    rw [if_neg (by decide), b_Mo_add_196, b_Mo_add_198, nm_def, nI_1]
    exact ih (i + 1) k _ _ _ (by omega) (hN.push g1 g2 rfl)
end MA
