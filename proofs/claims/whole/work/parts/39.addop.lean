theorem ofInt_toInt (x : Int32) : Int32.ofInt x.toInt = x := Int32.ofInt_toInt x
theorem beyond64 {v : Int} (h1 : -2147483648 ≤ v) (h2 : v < 2147483648) : (0 < lg_cmp (Int64.ofInt v) 1000000 ↔ 1000000 < v) ∧ (0 ≤ lg_cmp (Int64.ofInt v) (-1000000) ↔ -1000000 ≤ v) := by
  constructor
  · rw [cmp_gt, Int64.lt_iff_toInt_lt, lI_toInt (by omega) (by omega)]; exact Iff.rfl
  · rw [lg_cmp_ge, Int64.le_iff_toInt_le, lI_toInt (by omega) (by omega)]; exact Iff.rfl
set_option maxHeartbeats 1000000 in
/-- add: both answer alike -/
theorem add_op {F n len : Nat} {K : Nat → Nat} {V : Nat → Int} {count products drawn ik newMany thrown : Int32} {keys numbers ups downs nu nd : Nat → Int32} {num nn : Nat → Int64} (hF : 300 < F) (hn : n ≤ 8) (hO : SumOk n len K V) (hC : SumC count keys numbers len K V) (hM : SumM products ups downs num len K V) (p1 p2 p3 : Int32) :
    ∃ (r c' : Int32) (k' n' : Nat → Int32) (dr' pr' ik' nm' : Int32) (u' d' : Nat → Int32) (v' : Nat → Int64) (nu' nd' : Nat → Int32) (nn' : Nat → Int64) (len' : Nat) (K' : Nat → Nat) (V' : Nat → Int),
      f_FM_add F count keys numbers (nI n) drawn p1 p2 p3 = some (r, c', k', n', dr') ∧ f_Mo_add F thrown (nI n) products ik newMany ups downs num nu nd nn p1 p2 p3 = some (r, 0, pr', ik', nm', u', d', v', nu', nd', nn') ∧
      SumOk n len' K' V' ∧ SumC c' k' n' len' K' V' ∧ SumM pr' u' d' v' len' K' V' ∧ ((dr' = 0 ∧ ik' = 0) ∨ (dr' = drawn ∧ ik' = ik ∧ len' = len ∧ K' = K ∧ V' = V)) := by
  have hp8 : 2 ^ n ≤ 256 := Nat.pow_le_pow_right (by decide) hn
  by_cases h1 : ∃ k, k < 2 ^ n ∧ p1 = nI k
  · by_cases h2 : ∃ k, k < 2 ^ n ∧ p2 = nI k
    · have a1 : b2 (decide (∃ k, k < 2 ^ n ∧ p1 = nI k)) = 1 := by simp [h1, b2]
      have a2 : b2 (decide (∃ k, k < 2 ^ n ∧ p2 = nI k)) = 1 := by simp [h2, b2]
      obtain ⟨v, hv⟩ : ∃ v, v = p3.toInt := ⟨_, rfl⟩
      have hp3 : p3 = Int32.ofInt v := by rw [hv, ofInt_toInt]
      have r1 : -2147483648 ≤ v := by rw [hv]; exact Int32.le_toInt p3
      have r2 : v < 2147483648 := by rw [hv]; exact Int32.toInt_lt p3
      by_cases hb : Bey v
      · refine ⟨-1, count, keys, numbers, drawn, products, ik, newMany, ups, downs, num, nu, nd, nn, len, K, V, ?_, ?_, hO, hC, hM, Or.inr ⟨rfl, rfl, rfl, rfl, rfl⟩⟩
        · rw [f_FM_add, isSet_all (by omega), a1]
          simp only [Option.bind_some]
          rw [if_neg (by decide), isSet_all (by omega), a2]
          simp only [Option.bind_some]
          rw [if_neg (by decide), hp3, beyond_iI r1 r2]
          simp only [Option.bind_some]
          rw [if_neg (fun h => b2_dec.mp h hb)]
        · rw [f_Mo_add, isState_all (by omega), a1]
          simp only [Option.bind_some]
          rw [if_neg (by decide), isState_all (by omega), a2]
          simp only [Option.bind_some]
          rw [if_neg (by decide), hp3, toI64 r1 r2]
          by_cases h3 : 1000000 < v
          · rw [if_pos ((beyond64 r1 r2).1.mpr h3)]
          · rw [if_neg (fun q => h3 ((beyond64 r1 r2).1.mp q)), if_neg (fun q => by
              have := (beyond64 r1 r2).2.mp q
              rcases hb with hb | hb <;> omega)]
      · obtain ⟨U, hU, rfl⟩ := h1
        obtain ⟨D, hD, rfl⟩ := h2
        have hv1 : -1000000 ≤ v := by rcases Int.lt_or_le v (-1000000) with q | q; exact absurd (Or.inl q) hb; exact q
        have hv2 : v ≤ 1000000 := by rcases Int.lt_or_le 1000000 v with q | q; exact absurd (Or.inr q) hb; exact q
        obtain ⟨ok, len', K', V', hA⟩ := AddR.ex hO (256 * U + D) v
        obtain ⟨c', k', n', et, hC'⟩ := take_all (F := F) (by omega) hn hC hO (show 256 * U + D < 65536 by omega) hv1 hv2 hA
        have hO' := hA.ok hO (show (256 * U + D) / 256 < 2 ^ n by omega) (show (256 * U + D) % 256 < 2 ^ n by omega) hv1 hv2
        have ek : (256 : Int32) * nI U + nI D = nI (256 * U + D) := by rw [show (256 : Int32) = nI 256 from rfl, pk_mul, nI_add]
        have eU : (256 * U + D) / 256 = U := by omega
        have eD : (256 * U + D) % 256 = D := by omega
        obtain ⟨rfl, hM2⟩ := hM
        have hml := madd_loop (F := F) (nu := nu) (nd := nd) (nn := nn) (ik := ik) (modes := nI n) (by omega) hn ⟨rfl, hM2⟩ hO (show 256 * U + D < 65536 by omega) hv1 hv2 hA
        rw [eU, eD] at hml
        have eadd : f_FM_add F count keys numbers (nI n) drawn (nI U) (nI D) p3 = if ok then some (c', c', k', n', 0) else some (-1, c', k', n', drawn) := by
          rw [f_FM_add, isSet_all (by omega), a1]
          simp only [Option.bind_some]
          rw [if_neg (by decide), isSet_all (by omega), a2]
          simp only [Option.bind_some]
          rw [if_neg (by decide), hp3, beyond_iI r1 r2]
          simp only [Option.bind_some]
          rw [if_pos (b2_dec.mpr hb), ek, et]
          simp only [Option.bind_some]
          cases ok <;> rfl
        have emod : f_Mo_add F thrown (nI n) (nI len) ik newMany ups downs num nu nd nn (nI U) (nI D) p3 = b_Mo_add_64 F (nI n) F (nI U) (nI D) (Int32.ofInt v) (nI (256 * U + D)) 1 0 0 0 (nI len) ik 0 ups downs num nu nd nn := by
          rw [f_Mo_add, isState_all (by omega), a1]
          simp only [Option.bind_some]
          rw [if_neg (by decide), isState_all (by omega), a2]
          simp only [Option.bind_some]
          rw [if_neg (by decide), hp3, toI64 r1 r2, if_neg (fun q => by have := (beyond64 r1 r2).1.mp q; omega), if_pos ((beyond64 r1 r2).2.mpr hv1), nm_def, ek]
        rw [eadd, emod]
        cases ok with
        | true =>
          obtain ⟨nu', nd', nn', e3, hN⟩ := hml.1 rfl
          have hl' := hO'.1
          obtain ⟨u', d', v', e4, hM'⟩ := mtake_all (F := F) (u := ups) (d := downs) (v := num) (pr := nI len) (ik := ik) (by omega) hl' hN
          refine ⟨c', c', k', n', 0, nI len', 0, nI len', u', d', v', nu', nd', nn', len', K', V', rfl, ?_, hO', hC', hM', Or.inl ⟨rfl, rfl⟩⟩
          rw [e3, b_Mo_add_232, if_neg (by decide), e4, hC'.1]
          rfl
        | false =>
          obtain ⟨nm9, nu', nd', nn', e3⟩ := hml.2 rfl
          have hs : len' = len ∧ K' = K ∧ V' = V := by
            obtain ⟨p, -, -, -, ⟨-, -, hc⟩ | ⟨-, hc⟩⟩ := hA
            · rcases hc with ⟨-, -, q⟩ | ⟨-, q, -⟩ | ⟨-, -, q, -⟩
              · exact q
              · cases q
              · cases q
            · rcases hc with ⟨-, q, -⟩ | ⟨-, -, -, q⟩ | ⟨-, -, q, -⟩
              · cases q
              · exact q
              · cases q
          obtain ⟨rfl, rfl, rfl⟩ := hs
          refine ⟨-1, c', k', n', drawn, nI len', ik, nm9, ups, downs, num, nu', nd', nn', len', K', V', rfl, ?_, hO', hC', ⟨rfl, hM2⟩, Or.inr ⟨rfl, rfl, rfl, rfl, rfl⟩⟩
          rw [e3, b_Mo_add_232, if_pos rfl]
    · have a1 : b2 (decide (∃ k, k < 2 ^ n ∧ p1 = nI k)) = 1 := by simp [h1, b2]
      have a2 : b2 (decide (∃ k, k < 2 ^ n ∧ p2 = nI k)) = 0 := by rw [b2_dec]; exact h2
      refine ⟨-1, count, keys, numbers, drawn, products, ik, newMany, ups, downs, num, nu, nd, nn, len, K, V, ?_, ?_, hO, hC, hM, Or.inr ⟨rfl, rfl, rfl, rfl, rfl⟩⟩
      · rw [f_FM_add, isSet_all (by omega), a1]
        simp only [Option.bind_some]
        rw [if_neg (by decide), isSet_all (by omega), a2]
        rfl
      · rw [f_Mo_add, isState_all (by omega), a1]
        simp only [Option.bind_some]
        rw [if_neg (by decide), isState_all (by omega), a2]
        rfl
  · have a1 : b2 (decide (∃ k, k < 2 ^ n ∧ p1 = nI k)) = 0 := by rw [b2_dec]; exact h1
    refine ⟨-1, count, keys, numbers, drawn, products, ik, newMany, ups, downs, num, nu, nd, nn, len, K, V, ?_, ?_, hO, hC, hM, Or.inr ⟨rfl, rfl, rfl, rfl, rfl⟩⟩
    · rw [f_FM_add, isSet_all (by omega), a1]
      rfl
    · rw [f_Mo_add, isState_all (by omega), a1]
      rfl
