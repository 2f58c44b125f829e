/-! ladder: both answer alike -/
theorem cb1 : ∀ j, j < 8 → (((1 : Int32) <<< (nI j &&& 31)) - 1) = nI (2 ^ j - 1) ∧ ((255 - (((1 : Int32) <<< (nI j &&& 31)) - 1)) - ((1 : Int32) <<< (nI j &&& 31))) = nI (ab j) ∧ ((256 : Int32) <<< (nI j &&& 31)) = nI (2 ^ (8 + j)) ∧ ((1 : Int32) <<< (nI j &&& 31)) = nI (2 ^ j) := by decide +kernel
theorem MRes.wrap {len : Nat} {keys numbers : Nat → Int32} {c : Nat → Int} {r : MR} (h : MRes len keys numbers c r) : MRes len keys numbers c (r.bind fun u_8 => ckB u_8.1 <| some (u_8.1, u_8.2.1, u_8.2.2.1, u_8.2.2.2.1, u_8.2.2.2.2.1, u_8.2.2.2.2.2)) := by
  rcases h with ⟨m, K', V', k', n', sk, sn, rfl, a, b⟩ | ⟨⟨sk, sn, rfl⟩, a⟩
  · exact Or.inl ⟨m, K', V', k', n', sk, sn, rfl, a, b⟩
  · exact Or.inr ⟨⟨sk, sn, rfl⟩, a⟩
theorem cclimb_all {F n0 len j : Nat} {up ahead : Bool} {K : Nat → Nat} {V : Nat → Int} {keys numbers : Nat → Int32} (hF : 200 < F) (hn : n0 ≤ 8) (hj : j < 8) (hO : SumOk n0 len K V) (hC : SumC (nI len) keys numbers len K V) (sk sn : Nat → Int32) :
    MRes len keys numbers (cl (lj up j) (ljp up ahead j) (lmb up ahead j) (lmp up ahead j) (lmf up ahead) len K V) (f_Su_climb F (nI len) keys numbers sk sn (nI j) (b2 up) (b2 ahead)) := by
  obtain ⟨c1, c2, c3, c4⟩ := cb1 j hj
  have hp := pow_lt8 hj
  have hpp := Nat.two_pow_pos j
  rw [f_Su_climb]
  simp only [nm_def]
  rw [c1, c3, c4]
  rw [c1, c4] at c2
  rw [c2]
  have z : (0 : Int32) = nI 0 := rfl
  have h256 : ∀ x, (256 : Int32) * nI x = nI (256 * x) := fun x => by rw [show (256 : Int32) = nI 256 from rfl, pk_mul]
  have e8 := pw8 j
  cases up <;> cases ahead
  · rw [if_pos (by decide), b_Su_climb_54, if_pos (by decide), if_pos (by decide)]
    exact (merge_all (mf := false) (mb := 0) (mp := 0) hF hn hO hC (show 2 ^ j < 65536 by omega) (by omega) (by simp) sk sn).wrap
  · rw [if_pos (by decide), b_Su_climb_54, if_pos (by decide), if_neg (by decide), nm_def, show (65280 : Int32) = nI 65280 from rfl, nI_add, h256]
    exact (merge_all (mf := true) (mb := 2 ^ (8 + j)) (mp := 256 * (2 ^ j - 1)) hF hn hO hC (show 2 ^ j < 65536 by omega) (by omega) (by simp) sk sn).wrap
  · rw [if_neg (by decide), if_pos (by decide), b_Su_climb_54, if_neg (by decide), h256, show (255 : Int32) = nI 255 from rfl, nI_add]
    exact (merge_all (mf := true) (mb := 2 ^ j) (mp := ab j) hF hn hO hC (show 2 ^ (8 + j) < 65536 by omega) (by omega) (by simp) sk sn).wrap
  · rw [if_neg (by decide), if_neg (by decide), h256]
    exact (merge_all (mf := false) (mb := 0) (mp := 0) hF hn hO hC (show 2 ^ (8 + j) < 65536 by omega) (by omega) (by simp) sk sn).wrap
theorem cl_sml {n0 len jb jp mb mp : Nat} {mf : Bool} {K : Nat → Nat} {V : Nat → Int} (hO : SumOk n0 len K V) (x : Nat) : Sml (cl jb jp mb mp mf len K V x) := by
  have h := sumZ_bound (C := 2000000) (n := len) (f := fun i => (if K i &&& jb = 0 ∧ K i + jb = x then sgZ (od (K i &&& jp)) (V i) else 0) + if mf = true ∧ K i &&& mb = mb ∧ K i - mb = x then sgZ (od (K i &&& mp)) (V i) else 0) (fun i hi => by
    have hV := hO.2.2 i hi
    have b1 := sgZ_bound (g := od (K i &&& jp)) hV.2.1 hV.2.2.1
    have b2 := sgZ_bound (g := od (K i &&& mp)) hV.2.1 hV.2.2.1
    by_cases q1 : K i &&& jb = 0 ∧ K i + jb = x
    · by_cases q2 : mf = true ∧ K i &&& mb = mb ∧ K i - mb = x
      · rw [if_pos q1, if_pos q2]; omega
      · rw [if_pos q1, if_neg q2]; omega
    · by_cases q2 : mf = true ∧ K i &&& mb = mb ∧ K i - mb = x
      · rw [if_neg q1, if_pos q2]; omega
      · rw [if_neg q1, if_neg q2]; omega)
  have hl := hO.1
  have h : -(len * 2000000) ≤ cl jb jp mb mp mf len K V x ∧ cl jb jp mb mp mf len K V x ≤ len * 2000000 := h
  constructor <;> omega
theorem cl_sup {up ahead : Bool} {n0 len j : Nat} {K : Nat → Nat} {V : Nat → Int} (hn : n0 ≤ 8) (hj : j < n0) (hO : SumOk n0 len K V) (x : Nat) (hx : cl (lj up j) (ljp up ahead j) (lmb up ahead j) (lmp up ahead j) (lmf up ahead) len K V x ≠ 0) : x / 256 < 2 ^ n0 ∧ x % 256 < 2 ^ n0 := by
  rcases Decidable.em (x / 256 < 2 ^ n0 ∧ x % 256 < 2 ^ n0) with h | h
  · exact h
  · exfalso
    apply hx
    rw [cl]
    apply sumZ_zero
    intro i hi
    obtain ⟨k1, k2, k3⟩ := hO.key hn hi
    have hV := hO.2.2 i hi
    obtain ⟨d1, d2, d3, d4⟩ := key_D k1 (show j < 8 by omega)
    obtain ⟨u1, u2, u3, u4⟩ := key_U k1 (show j < 8 by omega)
    have hjp : 2 ^ j < 2 ^ n0 := Nat.pow_lt_pow_right (by decide) hj
    have xU : K i / 256 ^^^ 2 ^ j < 2 ^ n0 := Nat.xor_lt_two_pow hV.2.2.2.1 hjp
    have xD : K i % 256 ^^^ 2 ^ j < 2 ^ n0 := Nat.xor_lt_two_pow hV.2.2.2.2 hjp
    rw [if_neg, if_neg]
    · rfl
    · rintro ⟨q1, q2, q3⟩
      apply h
      cases up <;> cases ahead
      · exact absurd q1 (by decide)
      · have q2 : K i &&& 2 ^ (8 + j) = 2 ^ (8 + j) := q2
        have q3 : K i - 2 ^ (8 + j) = x := q3
        rw [← q3, (u4 (u2.mp q2)).1, (u4 (u2.mp q2)).2]
        exact ⟨xU, hV.2.2.2.2⟩
      · have q2 : K i &&& 2 ^ j = 2 ^ j := q2
        have q3 : K i - 2 ^ j = x := q3
        rw [← q3, (d4 (d2.mp q2)).1, (d4 (d2.mp q2)).2]
        exact ⟨hV.2.2.2.1, xD⟩
      · exact absurd q1 (by decide)
    · rintro ⟨q2, q3⟩
      apply h
      cases up
      · have q2 : K i &&& 2 ^ j = 0 := q2
        have q3 : K i + 2 ^ j = x := q3
        rw [← q3, (d3 (d1.mp q2)).1, (d3 (d1.mp q2)).2]
        exact ⟨hV.2.2.2.1, xD⟩
      · have q2 : K i &&& 2 ^ (8 + j) = 0 := q2
        have q3 : K i + 2 ^ (8 + j) = x := q3
        rw [← q3, (u3 (u1.mp q2)).1, (u3 (u1.mp q2)).2]
        exact ⟨xU, hV.2.2.2.2⟩
theorem Scan.ok {n0 m N : Nat} {c : Nat → Int} {K : Nat → Nat} {V : Nat → Int} (h : Scan c N m K V) (hsup : ∀ x, c x ≠ 0 → x / 256 < 2 ^ n0 ∧ x % 256 < 2 ^ n0) : SumOk n0 m K V := by
  refine ⟨h.1, h.2.1, fun i hi => ?_⟩
  obtain ⟨_, a, b, d⟩ := h.2.2.1 i hi
  obtain ⟨s1, s2⟩ := hsup (K i) (by rw [← a]; exact b)
  refine ⟨b, ?_, ?_, s1, s2⟩
  · rcases Int.lt_or_le (V i) (-1000000) with q | q
    · exact absurd (Or.inl q) d
    · exact q
  · rcases Int.lt_or_le 1000000 (V i) with q | q
    · exact absurd (Or.inr q) d
    · exact q
theorem ladder_op {F n len : Nat} {K : Nat → Nat} {V : Nat → Int} {count products drawn ik newMany thrown a b : Int32} {keys numbers sk sn ups downs nu nd : Nat → Int32} {num nn mx ot fd : Nat → Int64} (hF : 600 < F) (hn : n ≤ 8) (hO : SumOk n len K V) (hC : SumC count keys numbers len K V) (hM : SumM products ups downs num len K V) (p1 : Int32) (up ahead : Bool) :
    ∃ (r c' : Int32) (k' n' sk' sn' : Nat → Int32) (dr' pr' ik' a' b' nm' : Int32) (u' d' : Nat → Int32) (v' mx' ot' : Nat → Int64) (nu' nd' : Nat → Int32) (nn' fd' : Nat → Int64) (len' : Nat) (K' : Nat → Nat) (V' : Nat → Int),
      f_FM_ladder F count keys numbers sk sn (nI n) drawn p1 (b2 up) (b2 ahead) = some (r, c', k', n', sk', sn', dr') ∧ f_Mo_ladder F thrown (nI n) products ik a b newMany ups downs num mx ot nu nd nn fd p1 (b2 up) (b2 ahead) = some (r, 0, pr', ik', a', b', nm', u', d', v', mx', ot', nu', nd', nn', fd') ∧
      SumOk n len' K' V' ∧ SumC c' k' n' len' K' V' ∧ SumM pr' u' d' v' len' K' V' ∧ ((dr' = 0 ∧ ik' = 0) ∨ (dr' = drawn ∧ ik' = ik ∧ len' = len ∧ K' = K ∧ V' = V)) := by
  rw [f_FM_ladder, f_Mo_ladder]
  by_cases h1 : p1 < 0
  · rw [if_pos h1, if_pos h1]
    exact ⟨_, _, _, _, _, _, _, _, _, _, _, _, _, _, _, _, _, _, _, _, _, len, K, V, rfl, rfl, hO, hC, hM, Or.inr ⟨rfl, rfl, rfl, rfl, rfl⟩⟩
  · rw [if_neg h1, if_neg h1]
    obtain ⟨j, hj, rfl⟩ := nI_of h1
    rw [if_lt hj (by omega), if_lt hj (by omega)]
    by_cases h2 : j < n
    · rw [if_pos h2, if_pos h2]
      obtain ⟨rfl, hC2⟩ := hC
      obtain ⟨rfl, hM2⟩ := hM
      obtain ⟨a1, b1, mx1, e1, hX1⟩ := fill_all (F := F) (by omega) hn hO ⟨rfl, hM2⟩ a b mx
      obtain ⟨a2, b2', ot1, e2, hX2⟩ := mult_all (F := F) (up := up) (ahead := ahead) (by omega) hn h2 hX1 a1 b1 ot
      have hsup := fun x => cl_sup (up := up) (ahead := ahead) hn h2 hO x
      have h8 := n8 hn
      obtain ⟨ok, a3, b3, m, nu', nd', nn', fd', e3, hm, hro⟩ := readOff_all (F := F) (c := cl (lj up j) (ljp up ahead j) (lmb up ahead j) (lmp up ahead j) (lmf up ahead) len K V) (by omega) hn (cl_sml hO) (hX2.cong (fun t ht s hs => (Msub_cl hn (show j < 8 by omega) hO (by omega) (by omega)).symm)) hsup a2 b2' newMany nu nd nn fd
      rw [e1]
      simp only [Option.bind_some]
      rw [e2]
      simp only [Option.bind_some]
      rw [e3]
      simp only [Option.bind_some]
      rcases cclimb_all (F := F) (up := up) (ahead := ahead) (by omega) hn (show j < 8 by omega) hO ⟨rfl, hC2⟩ sk sn with ⟨m1, K1, V1, k1, n1, sk1, sn1, e4, hS, hsc⟩ | ⟨⟨sk1, sn1, e4⟩, hno⟩
      · rw [e4]
        simp only [Option.bind_some]
        rw [if_neg (by decide)]
        rcases hro with ⟨rfl, K2, V2, hsc2, hSM⟩ | ⟨rfl, hno⟩
        · rw [if_neg (by decide)]
          obtain ⟨rfl, hag⟩ := hsc.uniq hsc2
          have hSM1 : SumM (nI m1) nu' nd' nn' m1 K1 V1 := hSM.cong hag
          obtain ⟨u', d', v', e5, h5⟩ := mtake_all (F := F) (pr := nI len) (ik := ik) (u := ups) (d := downs) (v := num) (by omega) hm hSM1
          rw [e5]
          simp only [Option.bind_some]
          exact ⟨_, _, _, _, _, _, _, _, _, _, _, _, _, _, _, _, _, _, _, _, _, m1, K1, V1, rfl, rfl, hsc.ok hsup, hS, h5, Or.inl ⟨rfl, rfl⟩⟩
        · exact absurd ⟨_, _, _, hsc⟩ hno
      · rw [e4]
        simp only [Option.bind_some]
        rw [if_pos trivial]
        rcases hro with ⟨rfl, K2, V2, hsc2, hSM⟩ | ⟨rfl, _⟩
        · exact absurd ⟨_, _, _, hsc2⟩ hno
        · rw [if_pos (by decide)]
          exact ⟨_, _, _, _, _, _, _, _, _, _, _, _, _, _, _, _, _, _, _, _, _, len, K, V, rfl, rfl, hO, ⟨rfl, hC2⟩, ⟨rfl, hM2⟩, Or.inr ⟨rfl, rfl, rfl, rfl, rfl⟩⟩
    · rw [if_neg h2, if_neg h2]
      exact ⟨_, _, _, _, _, _, _, _, _, _, _, _, _, _, _, _, _, _, _, _, _, len, K, V, rfl, rfl, hO, hC, hM, Or.inr ⟨rfl, rfl, rfl, rfl, rfl⟩⟩
