/-! whole numbers in 32 and 64 bits -/
theorem iI_toInt {w : Int} (h1 : -2147483648 ≤ w) (h2 : w < 2147483648) : (Int32.ofInt w).toInt = w := Int32.toInt_ofInt_of_le h1 h2
theorem lI_toInt {w : Int} (h1 : -9223372036854775808 ≤ w) (h2 : w < 9223372036854775808) : (Int64.ofInt w).toInt = w := Int64.toInt_ofInt_of_le h1 h2
theorem iI_inj {a b : Int} (ha1 : -2147483648 ≤ a) (ha2 : a < 2147483648) (hb1 : -2147483648 ≤ b) (hb2 : b < 2147483648) : Int32.ofInt a = Int32.ofInt b ↔ a = b := by
  refine ⟨fun h => ?_, fun h => by rw [h]⟩
  have := congrArg Int32.toInt h
  rwa [iI_toInt ha1 ha2, iI_toInt hb1 hb2] at this
theorem iI_zero {a : Int} (ha1 : -2147483648 ≤ a) (ha2 : a < 2147483648) : Int32.ofInt a = 0 ↔ a = 0 := iI_inj (b := 0) ha1 ha2 (by decide) (by decide)
theorem beyond_iI {F : Nat} {w : Int} (h1 : -2147483648 ≤ w) (h2 : w < 2147483648) : f_FM_isBeyond F (Int32.ofInt w) = some (b2 (decide (w < -1000000 ∨ 1000000 < w))) := by
  rw [beyond_all]
  have e : (Int32.ofInt w < -1000000 ∨ 1000000 < Int32.ofInt w) ↔ (w < -1000000 ∨ 1000000 < w) := by
    rw [Int32.lt_iff_toInt_lt, Int32.lt_iff_toInt_lt, iI_toInt h1 h2]
    exact Iff.rfl
  simp only [e]
theorem b2_dec {P : Prop} [Decidable P] : b2 (decide P) = 0 ↔ ¬ P := by
  rw [b2_0, decide_eq_false_iff_not]
/-! sums as rows -/
def updF {α : Type} (f : Nat → α) (k : Nat) (x : α) : Nat → α := fun j => if j = k then x else f j
def SumOk (n len : Nat) (K : Nat → Nat) (V : Nat → Int) : Prop := len ≤ 60 ∧ (∀ i j, i < j → j < len → K i < K j) ∧ ∀ i, i < len → V i ≠ 0 ∧ -1000000 ≤ V i ∧ V i ≤ 1000000 ∧ K i / 256 < 2 ^ n ∧ K i % 256 < 2 ^ n
def SumC (count : Int32) (keys numbers : Nat → Int32) (len : Nat) (K : Nat → Nat) (V : Nat → Int) : Prop := count = nI len ∧ ∀ i, i < len → keys i = nI (K i) ∧ numbers i = Int32.ofInt (V i)
def SumM (products : Int32) (ups downs : Nat → Int32) (num : Nat → Int64) (len : Nat) (K : Nat → Nat) (V : Nat → Int) : Prop := products = nI len ∧ ∀ i, i < len → ups i = nI (K i / 256) ∧ downs i = nI (K i % 256) ∧ num i = Int64.ofInt (V i)
abbrev Bey (w : Int) : Prop := w < -1000000 ∨ 1000000 < w
/-- adding: where it goes, and what comes of it -/
def AddR (len : Nat) (K : Nat → Nat) (V : Nat → Int) (key : Nat) (v : Int) (ok : Bool) (len' : Nat) (K' : Nat → Nat) (V' : Nat → Int) : Prop :=
  ∃ p, p ≤ len ∧ (∀ i, i < p → K i < key) ∧ (∀ i, p ≤ i → i < len → key ≤ K i) ∧
    ((p < len ∧ K p = key ∧ ((Bey (V p + v) ∧ ok = false ∧ len' = len ∧ K' = K ∧ V' = V) ∨ (V p + v = 0 ∧ ok = true ∧ len' + 1 = len ∧ K' = delF K p ∧ V' = delF V p) ∨ (V p + v ≠ 0 ∧ ¬ Bey (V p + v) ∧ ok = true ∧ len' = len ∧ K' = K ∧ V' = updF V p (V p + v)))) ∨
     ((p < len → K p ≠ key) ∧ ((v = 0 ∧ ok = true ∧ len' = len ∧ K' = K ∧ V' = V) ∨ (v ≠ 0 ∧ 60 ≤ len ∧ ok = false ∧ len' = len ∧ K' = K ∧ V' = V) ∨ (v ≠ 0 ∧ len < 60 ∧ ok = true ∧ len' = len + 1 ∧ K' = insF K p key ∧ V' = insF V p v))))
theorem seek_add {F : Nat} {key : Nat} {num : Int32} {keys numbers : Nat → Int32} {len : Nat} {K : Nat → Nat} {V : Nat → Int} (hC : SumC (nI len) keys numbers len K V) (hl : len ≤ 60) (hK : ∀ i, i < len → K i < 65536) (hk : key < 65536) {p : Nat} (hp : p ≤ len) (h1 : ∀ i, i < p → K i < key) (h2 : ∀ i, p ≤ i → i < len → key ≤ K i) :
    ∀ (n i : Nat), i ≤ p → p < n + i → b_Su_take_2 F n (nI key) num (nI i) (nI len) keys numbers = b_Su_take_26 F (nI key) num (nI p) (nI len) keys numbers := by
  intro n
  induction n with
  | zero => intro i h3 h4; omega
  | succ n ih =>
    intro i h3 h4
    rw [b_Su_take_2, if_le (by omega) (by omega)]
    by_cases hi : len ≤ i
    · have e : i = p := by omega
      rw [if_pos hi, e]
    · rw [if_neg hi, ck_n (by omega) (by decide), nI_clamp (by omega), (hC.2 i (by omega)).1, if_le (by omega) (by have := hK i (by omega); omega)]
      by_cases hi2 : key ≤ K i
      · have e : i = p := by
          rcases Nat.lt_or_ge i p with h | h
          · have := h1 i h; omega
          · omega
        rw [if_pos hi2, e]
      · rw [if_neg hi2, nm_def, nI_1]
        have h5 : i < p := by
          rcases Nat.lt_or_ge i p with h | h
          · exact h
          · have := h2 i h (by omega); omega
        exact ih (i + 1) (by omega) (by omega)
set_option maxHeartbeats 1000000 in
theorem take_all {F n : Nat} {count : Int32} {keys numbers : Nat → Int32} {len len' : Nat} {K K' : Nat → Nat} {V V' : Nat → Int} {key : Nat} {v : Int} {ok : Bool} (hF : 100 < F) (hn : n ≤ 8) (hC : SumC count keys numbers len K V) (hO : SumOk n len K V) (hk : key < 65536) (hv1 : -1000000 ≤ v) (hv2 : v ≤ 1000000) (hA : AddR len K V key v ok len' K' V') :
    ∃ c' k' n', f_Su_take F count keys numbers (nI key) (Int32.ofInt v) = some (b2 ok, c', k', n') ∧ SumC c' k' n' len' K' V' := by
  obtain ⟨rfl, hC2⟩ := hC
  obtain ⟨p, hp, h1, h2, hcase⟩ := hA
  have hl := hO.1
  have hp8 : 2 ^ n ≤ 256 := Nat.pow_le_pow_right (by decide) hn
  have hK : ∀ i, i < len → K i < 65536 := fun i hi => by
    have := (hO.2.2 i hi).2.2.2
    omega
  rw [f_Su_take, show (0 : Int32) = nI 0 from rfl, seek_add ⟨rfl, hC2⟩ hl hK hk hp h1 h2 F 0 (Nat.zero_le _) (by omega), b_Su_take_26, if_le (by omega) (by omega)]
  have key26 : ∀ (hno : p < len → K p ≠ key), (if len ≤ p then b_Su_take_58 F (nI key) (Int32.ofInt v) (nI p) (nI len) keys numbers else ckI (nI p) 60 (if keys (nI p).toNatClampNeg = nI key then ckI (nI p) 60 ((f_Su_change F (nI len) keys numbers (nI p) (numbers (nI p).toNatClampNeg + Int32.ofInt v)).bind fun u_9 => ckB u_9.1 (some (u_9.1, u_9.2.1, u_9.2.2.1, u_9.2.2.2))) else b_Su_take_58 F (nI key) (Int32.ofInt v) (nI p) (nI len) keys numbers)) = b_Su_take_58 F (nI key) (Int32.ofInt v) (nI p) (nI len) keys numbers := by
    intro hno
    by_cases h3 : len ≤ p
    · rw [if_pos h3]
    · rw [if_neg h3, ck_n (by omega) (by decide), nI_clamp (by omega), (hC2 p (by omega)).1, if_eqn (by have := hK p (by omega); omega) (by omega), if_neg (hno (by omega))]
  rcases hcase with ⟨hpl, hKp, hc⟩ | ⟨hno, hc⟩
  · rw [if_neg (by omega), ck_n (by omega) (by decide), nI_clamp (by omega), (hC2 p hpl).1, hKp, if_pos rfl, ck_n (by omega) (by decide), (hC2 p hpl).2, ← Int32.ofInt_add, f_Su_change]
    have hVp := hO.2.2 p hpl
    rw [beyond_iI (by omega) (by omega)]
    simp only [Option.bind_some]
    rcases hc with ⟨hb, rfl, rfl, rfl, rfl⟩ | ⟨h0, rfl, hl', rfl, rfl⟩ | ⟨h0, hb, rfl, rfl, rfl, rfl⟩
    · rw [if_neg (fun h => b2_dec.mp h hb)]
      exact ⟨_, _, _, rfl, rfl, hC2⟩
    · rw [if_pos (by simp [h0, b2]), if_pos ((iI_zero (by omega) (by omega)).mpr h0)]
      obtain ⟨k', v', he, hkv⟩ := strike_all (F := F) (keys := keys) (numbers := numbers) hpl hl (by omega)
      rw [he]
      refine ⟨_, _, _, rfl, ?_, fun j hj => ?_⟩
      · show nI (len - 1) = nI len'; rw [show len - 1 = len' by omega]
      · obtain ⟨e1, e2⟩ := hkv j (by omega)
        show k' j = nI (delF K p j) ∧ v' j = Int32.ofInt (delF V p j)
        rw [e1, e2]
        by_cases h4 : j < p
        · simp only [delF, if_pos h4]; exact hC2 j (by omega)
        · simp only [delF, if_neg h4]; exact hC2 (j + 1) (by omega)
    · rw [if_pos (b2_dec.mpr hb), if_neg (fun h => h0 ((iI_zero (by omega) (by omega)).mp h)), ck_n (by omega) (by decide), nI_clamp (by omega)]
      refine ⟨_, _, _, rfl, rfl, fun j hj => ?_⟩
      refine ⟨(hC2 j hj).1, ?_⟩
      dsimp only
      by_cases h4 : j = p
      · subst h4; simp [upd, updF]
      · rw [upd_ne h4]; simp only [updF, if_neg h4]; exact (hC2 j hj).2
  · rw [key26 hno, b_Su_take_58]
    rcases hc with ⟨h0, rfl, rfl, rfl, rfl⟩ | ⟨h0, h60, rfl, rfl, rfl, rfl⟩ | ⟨h0, h60, rfl, rfl, rfl, rfl⟩
    · rw [if_pos ((iI_zero (by omega) (by omega)).mpr h0)]
      exact ⟨_, _, _, rfl, rfl, hC2⟩
    · rw [if_neg (fun h => h0 ((iI_zero (by omega) (by omega)).mp h)), show (60 : Int32) = nI 60 from rfl, if_lt (by omega) (by omega), if_neg (by omega)]
      exact ⟨_, _, _, rfl, rfl, hC2⟩
    · rw [if_neg (fun h => h0 ((iI_zero (by omega) (by omega)).mp h)), show (60 : Int32) = nI 60 from rfl, if_lt (by omega) (by omega), if_pos h60]
      obtain ⟨k', v', he, hkv⟩ := insert_all (F := F) (key := nI key) (num := Int32.ofInt v) (keys := keys) (numbers := numbers) hp h60 (by omega)
      rw [he]
      refine ⟨_, _, _, rfl, rfl, fun j hj => ?_⟩
      obtain ⟨e1, e2⟩ := hkv j (by omega)
      dsimp only
      rw [e1, e2]
      by_cases h4 : j < p
      · simp only [insF, if_pos h4]; exact hC2 j (by omega)
      · by_cases h5 : j = p
        · simp [insF, h5]
        · simp only [insF, if_neg h4, if_neg h5]; exact hC2 (j - 1) (by omega)
