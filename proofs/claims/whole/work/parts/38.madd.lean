theorem insF_s {α : Type} (f : Nat → α) (p : Nat) (x : α) : insF f p x (p + 1) = f p := by
  unfold insF
  rw [if_neg (by omega), if_neg (by omega), Nat.add_sub_cancel]
theorem SumM.cong {c : Int32} {nu nd : Nat → Int32} {nn : Nat → Int64} {m : Nat} {K K' : Nat → Nat} {V V' : Nat → Int} (h : SumM c nu nd nn m K V) (e : ∀ j, j < m → K' j = K j ∧ V' j = V j) : SumM c nu nd nn m K' V' := by
  refine ⟨h.1, fun i hi => ?_⟩
  rw [(e i hi).1, (e i hi).2]
  exact h.2 i hi
set_option maxHeartbeats 2000000 in
theorem madd_loop {F n0 len len' : Nat} {K K' : Nat → Nat} {V V' : Nat → Int} {ups downs nu nd : Nat → Int32} {num nn : Nat → Int64} {key : Nat} {v : Int} {ok : Bool} {ik modes : Int32} (hF : 200 < F) (hn : n0 ≤ 8) (hM : SumM (nI len) ups downs num len K V) (hO : SumOk n0 len K V) (hk : key < 65536) (hv1 : -1000000 ≤ v) (hv2 : v ≤ 1000000) (hA : AddR len K V key v ok len' K' V') :
    (ok = true → ∃ nu' nd' nn', b_Mo_add_64 F modes F (nI (key / 256)) (nI (key % 256)) (Int32.ofInt v) (nI key) 1 0 0 0 (nI len) ik 0 ups downs num nu nd nn = b_Mo_add_232 F modes 1 0 (nI len) ik (nI len') ups downs num nu' nd' nn' ∧ SumM (nI len') nu' nd' nn' len' K' V') ∧
    (ok = false → ∃ nm9 nu' nd' nn', b_Mo_add_64 F modes F (nI (key / 256)) (nI (key % 256)) (Int32.ofInt v) (nI key) 1 0 0 0 (nI len) ik 0 ups downs num nu nd nn = b_Mo_add_232 F modes 0 0 (nI len) ik nm9 ups downs num nu' nd' nn') := by
  obtain ⟨p, hp, h1, h2, hcase⟩ := hA
  have hl := hO.1
  have hp8 : 2 ^ n0 ≤ 256 := Nat.pow_le_pow_right (by decide) hn
  obtain ⟨k, hFk⟩ : ∃ k, F = (k + 1) + p := ⟨F - p - 1, by omega⟩
  obtain ⟨nu1, nd1, nn1, e1, hN1⟩ := ma_1 (F := F) (x1 := nI (key / 256)) (x2 := nI (key % 256)) (x3 := Int32.ofInt v) (ik := ik) (modes := modes) hM hO hn hk hp h1 p 0 (k + 1) nu nd nn (by omega) ⟨rfl, fun i hi => absurd hi (Nat.not_lt_zero i)⟩
  have e1' : b_Mo_add_64 F modes F (nI (key / 256)) (nI (key % 256)) (Int32.ofInt v) (nI key) 1 0 0 0 (nI len) ik 0 ups downs num nu nd nn = b_Mo_add_64 F modes (k + 1) (nI (key / 256)) (nI (key % 256)) (Int32.ofInt v) (nI key) 1 0 (nI p) 0 (nI len) ik (nI p) ups downs num nu1 nd1 nn1 := by
    rw [← e1, ← hFk]; rfl
  rw [e1', b_Mo_add_64, if_le (by omega) (by omega)]
  have hgt : ∀ j, p < j → j < len → K j ≠ key := fun j a b => by
    have := hO.2.1 p j a b
    have := h2 p (Nat.le_refl _) (by omega)
    omega
  rcases hcase with ⟨hpl, hKp, hc⟩ | ⟨hno, hc⟩
  · have hVp := hO.2.2 p hpl
    rw [if_neg (by omega), ck_n (by omega) (by decide), ck_n (by omega) (by decide), nm_def, nI_clamp (by omega), key_of hM hpl, if_pos rfl, if_lt (by omega) (by omega), if_neg (by omega), if_neg (by decide), if_pos (by rw [hKp]), ck_n (by omega) (by decide), b_Mo_add_137, toI64 (by omega) (by omega), (hM.2 p hpl).2.2, ← Int64.ofInt_add, show v + V p = V p + v from Int.add_comm _ _]
    rcases hc with ⟨hb, rfl, rfl, rfl, rfl⟩ | ⟨h0, rfl, hl', rfl, rfl⟩ | ⟨h0, hb, rfl, rfl, rfl, rfl⟩
    · refine ⟨fun h => (by cases h), fun _ => ?_⟩
      have hb0 : V' p + v ≠ 0 := fun q => by rw [q] at hb; rcases hb with hb | hb <;> omega
      rw [put_f (by omega) (by omega) hb0 (Or.inr hb)]
      simp only [Option.bind_some]
      rw [if_pos trivial, b_Mo_add_148, b_Mo_add_149, b_Mo_add_151, if_eqn (by omega) (by omega), if_pos hKp, b_Mo_add_198, nm_def, nI_1]
      exact ⟨_, _, _, _, ma_B hM hO hn hk k (p + 1) _ _ _ _ (by omega) (by omega)⟩
    · refine ⟨fun _ => ?_, fun h => (by cases h)⟩
      rw [h0, put_0]
      simp only [Option.bind_some]
      rw [if_neg (by decide), b_Mo_add_149, b_Mo_add_151, if_eqn (by omega) (by omega), if_pos hKp, b_Mo_add_198, nm_def, nI_1]
      have hA' := ma_A (F := F) (x1 := nI (key / 256)) (x2 := nI (key % 256)) (x3 := Int32.ofInt v) (ik := ik) (modes := modes) (K' := delF K p) (V' := delF V p) hM hO hn hk k (p + 1) p nu1 nd1 nn1 (by omega) (by omega) (by omega) (hN1.cong (fun j hj => by simp [delF, hj])) (fun j a b => by
        simp only [delF]
        rw [if_neg (by omega), if_neg (by omega), show p + (j - (p + 1)) + 1 = j by omega]; exact ⟨rfl, rfl⟩) (fun j a b => hgt j (by omega) b)
      rw [show p + (len - (p + 1)) = len' by omega] at hA'
      exact hA'
    · refine ⟨fun _ => ?_, fun h => (by cases h)⟩
      rw [put_t (by omega) (by omega) h0 hb]
      simp only [Option.bind_some]
      rw [if_neg (by decide), b_Mo_add_149, b_Mo_add_151, if_eqn (by omega) (by omega), if_pos hKp, b_Mo_add_198, nm_def, nI_1]
      have hA' := ma_A (F := F) (x1 := nI (key / 256)) (x2 := nI (key % 256)) (x3 := Int32.ofInt v) (ik := ik) (modes := modes) (K' := K') (V' := updF V p (V p + v)) hM hO hn hk k (p + 1) (p + 1) _ _ _ (by omega) (by omega) (by omega) ((hN1.cong (V' := updF V p (V p + v)) (K' := K') (fun j hj => ⟨rfl, by simp [updF, Nat.ne_of_lt hj]⟩)).push (a := nI (key / 256)) (b := nI (key % 256)) (w := Int64.ofInt (V p + v)) (by rw [hKp]) (by rw [hKp]) (by simp [updF])) (fun j a b => by
        simp only [updF]
        rw [if_neg (by omega), show p + 1 + (j - (p + 1)) = j by omega]; exact ⟨rfl, rfl⟩) (fun j a b => hgt j (by omega) b)
      rw [show p + 1 + (len' - (p + 1)) = len' by omega] at hA'
      exact hA'
  · have hge : ∀ j, p ≤ j → j < len → K j ≠ key := fun j a b => by
      by_cases e : j = p
      · subst e; exact hno b
      · exact hgt j (by omega) b
    by_cases hpl : p < len
    · have hVp := hO.2.2 p hpl
      have hKp := hno hpl
      obtain ⟨g1, g2, g3⟩ := hM.2 p hpl
      have hlt : ¬ K p < key := by have := h2 p (Nat.le_refl _) hpl; omega
      rw [if_neg (by omega), ck_n (by omega) (by decide), ck_n (by omega) (by decide), nm_def, nI_clamp (by omega), key_of hM hpl, if_pos rfl, if_lt (by omega) (by omega), if_neg hlt, if_neg (by decide), if_eqn (by omega) (by omega), if_neg hKp, b_Mo_add_137, toI64 (by omega) (by omega), Int64.add_zero]
      rcases hc with ⟨h0, rfl, rfl, rfl, rfl⟩ | ⟨h0, h60, rfl, rfl, rfl, rfl⟩ | ⟨h0, h60, rfl, rfl, rfl, rfl⟩
      · refine ⟨fun _ => ?_, fun h => (by cases h)⟩
        rw [h0, put_0]
        simp only [Option.bind_some]
        rw [if_neg (by decide), b_Mo_add_149, b_Mo_add_151, if_eqn (by omega) (by omega), if_neg hKp, if_neg (by decide), ck_n (by omega) (by decide), ck_n (by omega) (by decide), ck_n (by omega) (by decide), nI_clamp (by omega), g3, put_t (by omega) (by omega) hVp.1 (by intro q; rcases q with q | q <;> omega)]
        simp only [Option.bind_some]
        rw [if_neg (by decide), b_Mo_add_196, b_Mo_add_198, nm_def, nI_1]
        have hA' := ma_A (F := F) (x1 := nI (key / 256)) (x2 := nI (key % 256)) (x3 := Int32.ofInt 0) (ik := ik) (modes := modes) (K' := K') (V' := V') hM hO hn hk k (p + 1) (p + 1) _ _ _ (by omega) (by omega) (by omega) (hN1.push (w := Int64.ofInt (V' p)) g1 g2 rfl) (fun j a b => by
          rw [show p + 1 + (j - (p + 1)) = j by omega]; exact ⟨rfl, rfl⟩) (fun j a b => hgt j (by omega) b)
        rw [show p + 1 + (len' - (p + 1)) = len' by omega] at hA'
        exact hA'
      · refine ⟨fun h => (by cases h), fun _ => ?_⟩
        rw [put_t (by omega) (by omega) h0 (by intro q; rcases q with q | q <;> omega)]
        simp only [Option.bind_some]
        rw [if_neg (by decide), b_Mo_add_149, b_Mo_add_151, if_eqn (by omega) (by omega), if_neg hKp, if_neg (by decide), ck_n (by omega) (by decide), ck_n (by omega) (by decide), ck_n (by omega) (by decide), nI_clamp (by omega), g3]
        have hN2 := (hN1.cong (K' := insF K' p key) (V' := insF V' p v) (fun j hj => by simp [insF, hj])).push (a := nI (key / 256)) (b := nI (key % 256)) (w := Int64.ofInt v) (by simp [insF]) (by simp [insF]) (by simp [insF])
        by_cases h59 : p + 1 < 60
        · rw [put_t h59 (by omega) hVp.1 (by intro q; rcases q with q | q <;> omega)]
          simp only [Option.bind_some]
          rw [if_neg (by decide), b_Mo_add_196, b_Mo_add_198, nm_def, nI_1]
          refine ma_C (F := F) (K' := insF K' p key) (V' := insF V' p v) hM hO hn hk k (p + 1) (p + 1 + 1) _ _ _ (by omega) (by omega) (by omega) (by omega) (hN2.push (a := ups p) (b := downs p) (w := Int64.ofInt (V' p)) (by rw [g1, insF_s]) (by rw [g2, insF_s]) (by rw [insF_s])) (fun j a b => ?_) (fun j a b => hgt j (by omega) b)
          simp only [insF]
          rw [if_neg (by omega), if_neg (by omega), if_neg (by omega), if_neg (by omega), show p + 1 + 1 + (j - (p + 1)) - 1 = j by omega]; exact ⟨rfl, rfl⟩
        · rw [put_f (by omega) (by omega) hVp.1 (Or.inl (by omega))]
          simp only [Option.bind_some]
          rw [if_pos trivial, b_Mo_add_195, b_Mo_add_196, b_Mo_add_198, nm_def, nI_1]
          exact ⟨_, _, _, _, ma_B hM hO hn hk k (p + 1) _ _ _ _ (by omega) (by omega)⟩
      · refine ⟨fun _ => ?_, fun h => (by cases h)⟩
        rw [put_t (by omega) (by omega) h0 (by intro q; rcases q with q | q <;> omega)]
        simp only [Option.bind_some]
        rw [if_neg (by decide), b_Mo_add_149, b_Mo_add_151, if_eqn (by omega) (by omega), if_neg hKp, if_neg (by decide), ck_n (by omega) (by decide), ck_n (by omega) (by decide), ck_n (by omega) (by decide), nI_clamp (by omega), g3]
        have hN2 := (hN1.cong (K' := insF K p key) (V' := insF V p v) (fun j hj => by simp [insF, hj])).push (a := nI (key / 256)) (b := nI (key % 256)) (w := Int64.ofInt v) (by simp [insF]) (by simp [insF]) (by simp [insF])
        rw [put_t (by omega) (by omega) hVp.1 (by intro q; rcases q with q | q <;> omega)]
        simp only [Option.bind_some]
        rw [if_neg (by decide), b_Mo_add_196, b_Mo_add_198, nm_def, nI_1]
        have hA' := ma_A (F := F) (x1 := nI (key / 256)) (x2 := nI (key % 256)) (x3 := Int32.ofInt v) (ik := ik) (modes := modes) (K' := insF K p key) (V' := insF V p v) hM hO hn hk k (p + 1) (p + 1 + 1) _ _ _ (by omega) (by omega) (by omega) (hN2.push (a := ups p) (b := downs p) (w := Int64.ofInt (V p)) (by rw [g1, insF_s]) (by rw [g2, insF_s]) (by rw [insF_s])) (fun j a b => by
          simp only [insF]
          rw [if_neg (by omega), if_neg (by omega), if_neg (by omega), if_neg (by omega), show p + 1 + 1 + (j - (p + 1)) - 1 = j by omega]; exact ⟨rfl, rfl⟩) (fun j a b => hgt j (by omega) b)
        rw [show p + 1 + 1 + (len - (p + 1)) = len + 1 by omega] at hA'
        exact hA'
    · have hpe : p = len := by omega
      subst hpe
      rw [if_pos (Nat.le_refl _), if_pos rfl, if_neg (by decide), toI64 (by omega) (by omega)]
      rcases hc with ⟨h0, rfl, rfl, rfl, rfl⟩ | ⟨h0, h60, rfl, rfl, rfl, rfl⟩ | ⟨h0, h60, rfl, rfl, rfl, rfl⟩
      · refine ⟨fun _ => ?_, fun h => (by cases h)⟩
        rw [h0, put_0]
        simp only [Option.bind_some]
        rw [if_neg (by decide), b_Mo_add_230]
        exact ⟨_, _, _, rfl, hN1⟩
      · refine ⟨fun h => (by cases h), fun _ => ?_⟩
        rw [put_f (by omega) (by omega) h0 (Or.inl (by omega))]
        simp only [Option.bind_some]
        rw [if_pos trivial, b_Mo_add_229, b_Mo_add_230]
        exact ⟨_, _, _, _, rfl⟩
      · refine ⟨fun _ => ?_, fun h => (by cases h)⟩
        rw [put_t (by omega) (by omega) h0 (by intro q; rcases q with q | q <;> omega)]
        simp only [Option.bind_some]
        rw [if_neg (by decide), b_Mo_add_230]
        exact ⟨_, _, _, rfl, (hN1.cong (K' := insF K p key) (V' := insF V p v) (fun j hj => by simp [insF, hj])).push (a := nI (key / 256)) (b := nI (key % 256)) (w := Int64.ofInt v) (by simp [insF]) (by simp [insF]) (by simp [insF])⟩
