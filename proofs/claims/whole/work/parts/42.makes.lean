/-! the number with which a sum makes a state of a state -/
def sumZ : Nat → (Nat → Int) → Int
  | 0, _ => 0
  | n + 1, f => sumZ n f + f n
def amp (U D s t : Nat) (v : Int) : Int := if acts U D s = true ∧ s ^^^ D ^^^ U = t then (if sgn U D s then -v else v) else 0
def Mat (len : Nat) (K : Nat → Nat) (V : Nat → Int) (t s : Nat) : Int := sumZ len (fun i => amp (K i / 256) (K i % 256) s t (V i))
/-- the rest of a sum, from i on -/
theorem sumZ_split (f : Nat → Int) {n : Nat} : ∀ i, i ≤ n → ∃ r, sumZ n f = sumZ i f + r := fun i _ => ⟨sumZ n f - sumZ i f, by omega⟩
theorem ups_all {F i len : Nat} {keys numbers : Nat → Int32} {K : Nat → Nat} {V : Nat → Int} {c : Int32} (hC : SumC c keys numbers len K V) (hl : len ≤ 60) (hi : i < len) (hK : K i < 65536) : f_Su_upsOf F keys (nI i) = some (nI (K i / 256)) := by
  rw [f_Su_upsOf, ck_n (by omega) (by decide), nI_clamp (by omega), (hC.2 i hi).1, pk_shrN (by omega) _ 8 (by decide)]
theorem downs_all {F i len : Nat} {keys numbers : Nat → Int32} {K : Nat → Nat} {V : Nat → Int} {c : Int32} (hC : SumC c keys numbers len K V) (hl : len ≤ 60) (hi : i < len) (hK : K i < 65536) : f_Su_downsOf F keys (nI i) = some (nI (K i % 256)) := by
  rw [f_Su_downsOf, ck_n (by omega) (by decide), nI_clamp (by omega), (hC.2 i hi).1, pk_andN (by omega) 8 (by decide)]
theorem or_lt {a b : Nat} (ha : a < 256) (hb : b < 256) : a ||| b < 256 := Nat.or_lt_two_pow (n := 8) ha hb
theorem SumOk.key {n len : Nat} {K : Nat → Nat} {V : Nat → Int} (hO : SumOk n len K V) (hn : n ≤ 8) {i : Nat} (hi : i < len) : K i < 65536 ∧ K i / 256 < 256 ∧ K i % 256 < 256 := by
  have hp8 : 2 ^ n ≤ 256 := Nat.pow_le_pow_right (by decide) hn
  have := (hO.2.2 i hi).2.2.2
  omega
theorem neg_iI {v : Int} : -Int32.ofInt v = Int32.ofInt (-v) := (Int32.ofInt_neg v).symm
set_option maxHeartbeats 1000000 in
theorem between_loop {F n0 len : Nat} {K : Nat → Nat} {V : Nat → Int} {c : Int32} {keys numbers : Nat → Int32} {s t : Nat} (hn : n0 ≤ 8) (hO : SumOk n0 len K V) (hC : SumC c keys numbers len K V) (hs : s < 256) (ht : t < 256) :
    ∀ (n i : Nat), len < n + i → i ≤ len → b_Su_between_5 F c keys numbers n (nI s) (nI t) (Int64.ofInt (sumZ i (fun i => amp (K i / 256) (K i % 256) s t (V i)))) (nI i) = some (Int64.ofInt (Mat len K V t s)) := by
  intro n
  induction n with
  | zero => intro i h1 h2; omega
  | succ n ih =>
    intro i h1 h2
    have hl := hO.1
    rw [b_Su_between_5, hC.1, if_le (by omega) (by omega), ← hC.1]
    by_cases hi : len ≤ i
    · rw [if_pos hi, show i = len by omega]; rfl
    · have hil : i < len := by omega
      obtain ⟨k1, k2, k3⟩ := hO.key hn hil
      have hV := hO.2.2 i hil
      rw [if_neg hi, ups_all hC hl hil k1]
      simp only [Option.bind_some]
      rw [downs_all hC hl hil k1]
      simp only [Option.bind_some]
      have next : ∀ (x : Int64), x = Int64.ofInt (sumZ (i + 1) (fun i => amp (K i / 256) (K i % 256) s t (V i))) → b_Su_between_118 F (b_Su_between_5 F c keys numbers n) c keys numbers (nI s) (nI t) x (nI i) = some (Int64.ofInt (Mat len K V t s)) := fun x hx => by
        rw [b_Su_between_118, nm_def, nI_1, hx]
        exact ih (i + 1) (by omega) (by omega)
      have skip : amp (K i / 256) (K i % 256) s t (V i) = 0 → b_Su_between_57 F (b_Su_between_5 F c keys numbers n) c keys numbers (nI s) (nI t) (Int64.ofInt (sumZ i (fun i => amp (K i / 256) (K i % 256) s t (V i)))) (nI i) (nI (K i / 256)) (nI (K i % 256)) = some (Int64.ofInt (Mat len K V t s)) := fun h => by
        rw [b_Su_between_57, b_Su_between_58, if_pos rfl]
        refine next _ ?_
        rw [sumZ, h, Int.add_zero]
      rw [nI_or, nI_and, if_eqn (by have := and_lt_l (b := K i / 256 ||| K i % 256) hs; omega) (by omega)]
      by_cases ha : s &&& (K i / 256 ||| K i % 256) = K i % 256
      · have hact : acts (K i / 256) (K i % 256) s = true := by simp [acts, ha]
        rw [if_pos ha, nI_xor, nI_xor, if_eqn (by have := xor_lt (xor_lt hs k2) k3; omega) (by omega)]
        have ex : s ^^^ K i / 256 ^^^ K i % 256 = s ^^^ K i % 256 ^^^ K i / 256 := by rw [Nat.xor_assoc, Nat.xor_comm (K i / 256), ← Nat.xor_assoc]
        by_cases hb : s ^^^ K i / 256 ^^^ K i % 256 = t
        · rw [if_pos hb, b_Su_between_58, if_neg (by decide), ob_all k2]
          simp only [Option.bind_some]
          rw [ob_all k3]
          simp only [Option.bind_some]
          rw [nI_xor, nI_and, isOdd_all (Nat.lt_trans (and_lt_l hs) (by decide))]
          simp only [Option.bind_some]
          rw [turns_all k2 k3]
          simp only [Option.bind_some]
          have hamp : amp (K i / 256) (K i % 256) s t (V i) = if sgn (K i / 256) (K i % 256) s then -V i else V i := by
            rw [amp, if_pos ⟨hact, by rw [← ex]; exact hb⟩]
          by_cases hg : od (s &&& (ob (K i / 256) ^^^ ob (K i % 256))) = od (K i % 256 &&& ob (K i / 256))
          · have hsg : sgn (K i / 256) (K i % 256) s = false := by rw [sgn, hg]; cases od (K i % 256 &&& ob (K i / 256)) <;> rfl
            rw [if_pos (by rw [hg]), ck_n (by omega) (by decide), nI_clamp (by omega), (hC.2 i hil).2, toI64 (by omega) (by omega), b_Su_between_116, nm_def, ← Int64.ofInt_add]
            refine next _ ?_
            rw [sumZ, hamp, hsg]; rfl
          · have hsg : sgn (K i / 256) (K i % 256) s = true := by
              rw [sgn]
              cases h5 : od (s &&& (ob (K i / 256) ^^^ ob (K i % 256))) <;> cases h6 : od (K i % 256 &&& ob (K i / 256)) <;> simp [h5, h6] at hg ⊢
            rw [if_neg (fun q => hg (b2_eq.mp q)), ck_n (by omega) (by decide), nI_clamp (by omega), (hC.2 i hil).2, neg_iI, toI64 (by omega) (by omega), b_Su_between_116, nm_def, ← Int64.ofInt_add]
            refine next _ ?_
            rw [sumZ, hamp, hsg]; rfl
        · rw [if_neg hb]
          refine skip ?_
          rw [amp, if_neg (fun q => hb (by rw [ex]; exact q.2))]
      · rw [if_neg ha]
        refine skip ?_
        rw [amp, if_neg (fun q => ha (by have := q.1; simpa [acts] using this))]
theorem sg64 (g : Bool) : (sgI g).toInt64 = Int64.ofInt (if g then -1 else 1) := by cases g <;> rfl
theorem nI_ok {a b : Nat} (ha : a < 256) (hb : b < 256) : nI a = nI b ↔ a = b := nI_eq (by omega) (by omega)
set_option maxHeartbeats 1000000 in
theorem mmakes_loop {F n0 len : Nat} {K : Nat → Nat} {V : Nat → Int} {ups downs : Nat → Int32} {num : Nat → Int64} {s t : Nat} {modes thr : Int32} (hF : 9 ≤ F) (hn : n0 ≤ 8) (hO : SumOk n0 len K V) (hM : SumM (nI len) ups downs num len K V) (hs : s < 256) (ht : t < 256) :
    ∀ (n i : Nat) (a b : Int32), len < n + i → i ≤ len → ∃ a' b', b_Mo_makes_32 F modes (nI len) ups downs num n (nI s) (nI t) (Int64.ofInt (sumZ i (fun i => amp (K i / 256) (K i % 256) s t (V i)))) (nI i) thr a b = some (Int64.ofInt (Mat len K V t s), thr, a', b') := by
  intro n
  induction n with
  | zero => intro i a b h1 h2; omega
  | succ n ih =>
    intro i a b h1 h2
    have hl := hO.1
    rw [b_Mo_makes_32, if_le (by omega) (by omega)]
    by_cases hi : len ≤ i
    · rw [if_pos hi, show i = len by omega]; exact ⟨a, b, rfl⟩
    · have hil : i < len := by omega
      obtain ⟨k1, k2, k3⟩ := hO.key hn hil
      obtain ⟨g1, g2, g3⟩ := hM.2 i hil
      rw [if_neg hi, ck_n (by omega) (by decide), ck_n (by omega) (by decide), nI_clamp (by omega), g1, g2]
      obtain ⟨t1, g, em, hm⟩ := make_all (F := F) (a := a) (b := b) hF k2 k3 hs
      rw [em]
      simp only [Option.bind_some]
      have next : ∀ (x : Int64) (a b : Int32), x = Int64.ofInt (sumZ (i + 1) (fun i => amp (K i / 256) (K i % 256) s t (V i))) → ∃ a' b', b_Mo_makes_87 F (b_Mo_makes_32 F modes (nI len) ups downs num n) modes (nI len) ups downs num (nI s) (nI t) x (nI i) thr a b = some (Int64.ofInt (Mat len K V t s), thr, a', b') := fun x a b hx => by
        rw [b_Mo_makes_87, nm_def, nI_1, hx]
        exact ih (i + 1) a b (by omega) (by omega)
      by_cases ha : acts (K i / 256) (K i % 256) s = true
      · obtain ⟨e1, e2⟩ := hm ha
        subst e1; subst e2
        have hampt : s ^^^ K i % 256 ^^^ K i / 256 = t → amp (K i / 256) (K i % 256) s t (V i) = if sgn (K i / 256) (K i % 256) s then -V i else V i := fun hb => by
          rw [amp, if_pos (And.intro ha hb)]
        rw [ha, if_neg (by decide), if_eqn (by have := xor_lt (xor_lt hs k3) k2; omega) (by omega)]
        by_cases hb : s ^^^ K i % 256 ^^^ K i / 256 = t
        · rw [if_pos hb, ck_n (by omega) (by decide), nm_def, g3, sg64, ← Int64.ofInt_mul, ← Int64.ofInt_add]
          refine next _ _ _ ?_
          rw [sumZ, hampt hb]
          cases sgn (K i / 256) (K i % 256) s
          · simp
          · simp
        · rw [if_neg hb]
          refine next _ _ _ ?_
          rw [sumZ, amp, if_neg (fun q => hb q.2), Int.add_zero]
      · have ha' : acts (K i / 256) (K i % 256) s = false := by cases h : acts (K i / 256) (K i % 256) s; rfl; exact absurd h ha
        rw [ha', if_pos (by decide)]
        refine next _ _ _ ?_
        rw [sumZ, amp, if_neg (fun q => ha q.1), Int.add_zero]
