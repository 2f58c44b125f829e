/-! reading products off the matrix -/
theorem sub_step : ∀ (c both c' : Nat), c &&& both = c → c' &&& both = c' → c' < c → c' ≤ (c - 1) &&& both := by
  intro c
  induction c using Nat.strongRecOn with
  | ind c ih =>
    intro both c' h1 h2 h3
    have a1 : c / 2 &&& both / 2 = c / 2 := by rw [← Nat.and_div_two, h1]
    have a2 : c' / 2 &&& both / 2 = c' / 2 := by rw [← Nat.and_div_two, h2]
    have b2' : (c' % 2) ≤ both % 2 := by
      have := Nat.and_mod_two_pow (a := c') (b := both) (n := 1)
      rw [h2] at this
      have this : c' % 2 = c' % 2 &&& both % 2 := this
      rw [this]; exact Nat.and_le_right
    have e : ((c - 1) &&& both) = 2 * ((c - 1) / 2 &&& both / 2) + ((c - 1) % 2 &&& both % 2) := by
      have x1 := Nat.div_add_mod ((c - 1) &&& both) 2
      rw [← Nat.and_div_two]
      have x2 := Nat.and_mod_two_pow (a := c - 1) (b := both) (n := 1)
      have x2 : ((c - 1) &&& both) % 2 = (c - 1) % 2 &&& both % 2 := x2
      rw [← x2]; omega
    rw [e]
    rcases Nat.mod_two_eq_zero_or_one c with hc | hc
    · -- even
      have e1 : (c - 1) / 2 = c / 2 - 1 := by omega
      have e2 : (c - 1) % 2 = 1 := by omega
      have h4 := ih (c / 2) (by omega) (both / 2) (c' / 2) a1 a2 (by omega)
      rw [e1, e2]
      have e3 : 1 &&& both % 2 = both % 2 := by
        rcases Nat.mod_two_eq_zero_or_one both with q | q <;> rw [q] <;> rfl
      rw [e3]; omega
    · have e1 : (c - 1) / 2 = c / 2 := by omega
      have e2 : (c - 1) % 2 = 0 := by omega
      rw [e1, a1, e2, Nat.zero_and]; omega
theorem sumZ_ext {f : Nat → Int} {m : Nat} : ∀ {n : Nat}, m ≤ n → (∀ x, m ≤ x → x < n → f x = 0) → sumZ n f = sumZ m f := by
  intro n
  induction n with
  | zero => intro h _; rw [show m = 0 by omega]
  | succ n ih =>
    intro h hz
    by_cases e : m = n + 1
    · rw [e]
    · simp only [sumZ]; rw [ih (by omega) (fun x a b => hz x a (by omega)), hz n (by omega) (by omega), Int.add_zero]
/-- the sum over members of both up to c, but the empty one -/
def sS (both : Nat) (f : Nat → Int) (c : Nat) : Int := sumZ (c + 1) (fun x => if x = 0 then 0 else if x &&& both = x then f x else 0)
theorem sS_step {both c : Nat} {f : Nat → Int} (hc : c &&& both = c) (h0 : 0 < c) : sS both f c = f c + sS both f ((c - 1) &&& both) := by
  have hlt : (c - 1) &&& both ≤ c - 1 := Nat.and_le_left
  have e : sS both f c = sumZ c (fun x => if x = 0 then 0 else if x &&& both = x then f x else 0) + f c := by
    rw [sS, sumZ, if_neg (by omega), if_pos hc]
  have e2 : sumZ c (fun x => if x = 0 then 0 else if x &&& both = x then f x else 0) = sS both f ((c - 1) &&& both) := by
    rw [sS]
    apply sumZ_ext (by omega)
    intro x a b
    by_cases q : x = 0
    · rw [if_pos q]
    · rw [if_neg q, if_neg]
      intro r
      have := sub_step c both x hc r b
      omega
  rw [e, e2]; omega
theorem sS_0 {both : Nat} {f : Nat → Int} : sS both f 0 = 0 := by simp [sS, sumZ]
theorem Msub_sS {c : Nat → Int} {u d : Nat} (hu : u < 256) : Msub c u d = sgZ (sgn u d d) (c (256 * u + d)) + sS (u &&& d) (fun x => sgZ (sgn (u ^^^ x) (d ^^^ x) d) (c (256 * (u ^^^ x) + (d ^^^ x)))) (u &&& d) := by
  have hlt : u &&& d < 256 := and_lt_l hu
  have e : Msub c u d = sumZ 256 (fun x => (if x = 0 then sgZ (sgn u d d) (c (256 * u + d)) else 0) + if x = 0 then 0 else if x &&& (u &&& d) = x then sgZ (sgn (u ^^^ x) (d ^^^ x) d) (c (256 * (u ^^^ x) + (d ^^^ x))) else 0) := by
    rw [Msub]
    apply sumZ_cong
    intro x _
    by_cases q : x = 0
    · subst q; simp
    · simp [q]
  rw [e, sumZ_add, sumZ_one (p := 0) (by decide) (fun i _ h => if_neg h), if_pos rfl, sS]
  refine congrArg (fun z => sgZ (sgn u d d) (c (256 * u + d)) + z) ?_
  apply sumZ_ext (by omega)
  intro x a b
  by_cases q : x = 0
  · rw [if_pos q]
  · rw [if_neg q, if_neg]
    intro r
    have : x ≤ u &&& d := by rw [← r]; exact Nat.and_le_right
    omega
theorem andnot (x y : Int32) : x &&& (y ^^^ (-1)) = x ^^^ (x &&& y) := by
  apply Int32.toBitVec_inj.mp
  rw [Int32.toBitVec_and, Int32.toBitVec_xor, Int32.toBitVec_xor, Int32.toBitVec_and, show (-1 : Int32).toBitVec = BitVec.allOnes 32 from rfl]
  apply BitVec.eq_of_getLsbD_eq
  intro i hi
  rw [BitVec.getLsbD_and, BitVec.getLsbD_xor, BitVec.getLsbD_xor, BitVec.getLsbD_and, BitVec.getLsbD_allOnes]
  rw [decide_eq_true hi]
  cases x.toBitVec.getLsbD i <;> cases y.toBitVec.getLsbD i <;> rfl
theorem sub_l {x u d : Nat} (h : x &&& (u &&& d) = x) : u &&& x = x ∧ d &&& x = x := by
  constructor
  · rw [Nat.and_comm]; exact sub_iff.mpr (fun i hi => by have := sub_iff.mp h i hi; rw [Nat.testBit_and] at this; simp at this; exact this.1)
  · rw [Nat.and_comm]; exact sub_iff.mpr (fun i hi => by have := sub_iff.mp h i hi; rw [Nat.testBit_and] at this; simp at this; exact this.2)
theorem xor_sub {x u : Nat} (h : u &&& x = x) (h0 : x ≠ 0) : u ^^^ x < u := by
  have e : (u ^^^ x) &&& u = u ^^^ x := by rw [and_xor_r, Nat.and_self, Nat.and_comm x, h]
  have h1 : u ^^^ x ≤ u := by rw [← e]; exact Nat.and_le_right
  rcases Nat.eq_or_lt_of_le h1 with q | q
  · exfalso
    apply h0
    have := congrArg (fun z => u ^^^ z) q
    simp only [← Nat.xor_assoc, Nat.xor_self, Nat.zero_xor] at this
    exact this
  · exact q
theorem acts_sub {x u d : Nat} (h : x &&& (u &&& d) = x) : acts (u ^^^ x) (d ^^^ x) d = true := by
  rw [acts_tb]
  intro i
  have a := sub_iff.mp h i
  rw [Nat.testBit_and] at a
  rw [Nat.testBit_xor, Nat.testBit_xor]
  revert a
  cases u.testBit i <;> cases x.testBit i <;> cases d.testBit i <;> decide
theorem acts_self (u d : Nat) : acts u d d = true := by
  rw [acts_tb]
  intro i
  cases u.testBit i <;> cases d.testBit i <;> rfl
theorem sgZ_sgZ (g : Bool) (v : Int) : sgZ g (sgZ g v) = v := by cases g <;> simp [sgZ]
/-- what has been put so far -/
def RO (c : Nat → Int) (ok : Bool) (pos m : Nat) (nu nd : Nat → Int32) (nn : Nat → Int64) : Prop :=
  (ok = true ∧ ∃ K' V', Scan c pos m K' V' ∧ SumM (nI m) nu nd nn m K' V') ∨ (ok = false ∧ ¬ ∃ m' K' V', Scan c 131072 m' K' V')
def FD (c : Nat → Int) (n0 u d : Nat) (fd : Nat → Int64) : Prop := ∀ u', u' < 2 ^ n0 → ∀ d', d' < 2 ^ n0 → (u' < u ∨ u' = u ∧ d' < d) → fd (256 * u' + d') = Int64.ofInt (c (256 * u' + d'))
theorem SumM.pushF {m : Nat} {nu nd : Nat → Int32} {nn : Nat → Int64} {K : Nat → Nat} {V : Nat → Int} {c : Int32} (h : SumM c nu nd nn m K V) (u d : Nat) (w : Int) (hd : d < 256) : SumM (nI (m + 1)) (upd nu m (nI u)) (upd nd m (nI d)) (vp_updL nn m (Int64.ofInt w)) (m + 1) (updF K m (256 * u + d)) (updF V m w) := by
  have h2 : SumM c nu nd nn m (updF K m (256 * u + d)) (updF V m w) := h.cong (fun j hj => ⟨updF_ne (by omega), updF_ne (by omega)⟩)
  refine h2.push ?_ ?_ ?_
  · rw [updF_at, show (256 * u + d) / 256 = u by omega]
  · rw [updF_at, show (256 * u + d) % 256 = d by omega]
  · rw [updF_at]
section
variable {F n0 : Nat} {c : Nat → Int} {ot : Nat → Int64}
abbrev K9 := Int32 → Int32 → Int32 → Int32 → Int32 → (Nat → Int32) → (Nat → Int32) → (Nat → Int64) → (Nat → Int64) → Option (Int32 × Int32 × Int32 × Int32 × (Nat → Int32) × (Nat → Int32) × (Nat → Int64) × (Nat → Int64))
abbrev K19 := Int32 → Int32 → Int32 → Int32 → Int32 → Int32 → (Nat → Int32) → (Nat → Int32) → (Nat → Int64) → (Nat → Int64) → Option (Int32 × Int32 × Int32 × Int32 × (Nat → Int32) × (Nat → Int32) × (Nat → Int64) × (Nat → Int64))
set_option maxHeartbeats 1000000 in
theorem sub_loop {k9 : K9} {k19 : K19} {u d : Nat} (hF : 300 < F) (hn : n0 ≤ 8) (hu : u < 2 ^ n0) (hd : d < 2 ^ n0) (hsml : ∀ x, Sml (c x)) :
    ∀ (f x : Nat) (ok : Bool) (a b : Int32) (m : Nat) (nu nd : Nat → Int32) (nn fd : Nat → Int64), x < f → x &&& (u &&& d) = x → m ≤ 60 → FD c n0 u d fd → RO c ok (256 * u + d) m nu nd nn →
      ∃ ok' a' b' m' nu' nd' nn' fd', b_Mo_readOff_50 F k9 k19 (nI n0) ot f (b2 ok) (nI u) (nI d) (Int64.ofInt (Msub c u d - (sS (u &&& d) (fun x => sgZ (sgn (u ^^^ x) (d ^^^ x) d) (c (256 * (u ^^^ x) + (d ^^^ x)))) (u &&& d) - sS (u &&& d) (fun x => sgZ (sgn (u ^^^ x) (d ^^^ x) d) (c (256 * (u ^^^ x) + (d ^^^ x)))) x))) (nI (u &&& d)) (nI x) a b (nI m) nu nd nn fd = k19 (b2 ok') (nI u) (nI (d + 1)) a' b' (nI m') nu' nd' nn' fd' ∧ m' ≤ 60 ∧ FD c n0 u (d + 1) fd' ∧ RO c ok' (256 * u + d + 1) m' nu' nd' nn' := by
  intro f
  induction f with
  | zero => intro x ok a b m nu nd nn fd h1; omega
  | succ f ih =>
    intro x ok a b m nu nd nn fd h1 hx hm hfd hro
    have h8 := n8 hn
    have hxu : x ≤ u := by
      have : x ≤ u &&& d := by rw [← hx]; exact Nat.and_le_right
      exact Nat.le_trans this Nat.and_le_left
    rw [b_Mo_readOff_50, show (0 : Int32) = nI 0 from rfl, if_le (by omega) (by omega)]
    by_cases h0 : x ≤ 0
    · have hx0 : x = 0 := by omega
      subst hx0
      rw [if_pos h0]
      obtain ⟨t1, g, em, hmk⟩ := make_all (F := F) (a := a) (b := b) (show 9 ≤ F by omega) (show u < 256 by omega) (show d < 256 by omega) (show d < 256 by omega)
      obtain ⟨e1, e2⟩ := hmk (acts_self u d)
      rw [em]
      simp only [Option.bind_some]
      rw [e2, nm_def, sg_mul, ofs, ck_n (by omega) (by decide), nI_clamp (by omega)]
      have ev : sgZ (sgn u d d) (Msub c u d - (sS (u &&& d) (fun x => sgZ (sgn (u ^^^ x) (d ^^^ x) d) (c (256 * (u ^^^ x) + (d ^^^ x)))) (u &&& d) - sS (u &&& d) (fun x => sgZ (sgn (u ^^^ x) (d ^^^ x) d) (c (256 * (u ^^^ x) + (d ^^^ x)))) 0)) = c (256 * u + d) := by
        rw [Msub_sS (show u < 256 by omega), sS_0, Int.sub_zero, Int.add_sub_cancel, sgZ_sgZ]
      rw [ev]
      have hfd' : FD c n0 u (d + 1) (vp_updL fd (256 * u + d) (Int64.ofInt (c (256 * u + d)))) := fun u' q1 d' q2 q3 => by
        by_cases e : u' = u ∧ d' = d
        · rw [e.1, e.2, updL_at]
        · rw [updL_ne (by omega)]; exact hfd u' q1 d' q2 (by omega)
      rcases hro with ⟨rfl, K', V', hsc, hSM⟩ | ⟨rfl, hno⟩
      · rw [if_neg (by decide), nm_def, ck_n (by omega) (by decide), nI_clamp (by omega), updL_at]
        by_cases hz : c (256 * u + d) = 0
        · rw [hz, put_0]
          simp only [Option.bind_some]
          rw [if_neg (by decide), b_Mo_readOff_178, nm_def, nI_1]
          refine ⟨true, _, _, m, nu, nd, nn, _, rfl, hm, ?_, Or.inl ⟨rfl, K', V', hsc.skip (by omega) (fun y q1 q2 => by rw [show y = 256 * u + d by omega]; exact hz), hSM⟩⟩
          rw [hz] at hfd'; exact hfd'
        · by_cases hb : m = 60 ∨ Bey (c (256 * u + d))
          · rw [put_f hm (hsml _) hz hb]
            simp only [Option.bind_some]
            rw [if_pos (by decide), b_Mo_readOff_177, b_Mo_readOff_178, nm_def, nI_1]
            exact ⟨false, _, _, m, nu, nd, nn, _, rfl, hm, hfd', Or.inr ⟨rfl, hsc.fail hz hb (by omega)⟩⟩
          · have hm60 : m < 60 := by
              rcases Nat.lt_or_ge m 60 with q | q
              · exact q
              · exact absurd (Or.inl (by omega)) hb
            rw [put_t hm60 (hsml _) hz (fun q => hb (Or.inr q))]
            simp only [Option.bind_some]
            rw [if_neg (by decide), b_Mo_readOff_178, nm_def, nI_1]
            exact ⟨true, _, _, m + 1, _, _, _, _, rfl, by omega, hfd', Or.inl ⟨rfl, _, _, hsc.push hz (fun q => hb (Or.inr q)) hm60, hSM.pushF u d _ (by omega)⟩⟩
      · rw [if_pos (by decide), b_Mo_readOff_177, b_Mo_readOff_178, nm_def, nI_1]
        exact ⟨false, _, _, m, nu, nd, nn, _, rfl, hm, hfd', Or.inr ⟨rfl, hno⟩⟩
    · obtain ⟨s1, s2⟩ := sub_l hx
      have hux : u ^^^ x < 256 := xor_lt (by omega) (by omega)
      have hdx : d ^^^ x < 256 := xor_lt (by omega) (by omega)
      have hux2 : u ^^^ x < u := xor_sub s1 (by omega)
      have hxd : x ≤ d := by rw [← s2]; exact Nat.and_le_left
      have hdx2 : d ^^^ x < 2 ^ n0 := Nat.xor_lt_two_pow hd (by omega)
      rw [if_neg h0, andnot, andnot, nI_and, nI_and, nI_xor, nI_xor, s1, s2]
      obtain ⟨t1, g, em, hmk⟩ := make_all (F := F) (a := a) (b := b) (show 9 ≤ F by omega) hux hdx (show d < 256 by omega)
      obtain ⟨e1, e2⟩ := hmk (acts_sub hx)
      rw [em, acts_sub hx]
      simp only [Option.bind_some]
      rw [if_neg (by decide), ofs, nm_def, ck_n (by omega) (by decide), nm_def, nI_clamp (by omega), e2, hfd (u ^^^ x) (by omega) (d ^^^ x) hdx2 (Or.inl hux2), sg_mul, ← Int64.ofInt_sub, b_Mo_readOff_108, nm_def]
      obtain ⟨x', rfl⟩ : ∃ x', x = x' + 1 := ⟨x - 1, by omega⟩
      rw [nI_pred, nI_and]
      have hst := sS_step (f := fun x => sgZ (sgn (u ^^^ x) (d ^^^ x) d) (c (256 * (u ^^^ x) + (d ^^^ x)))) hx (by omega)
      rw [Nat.add_sub_cancel] at hst
      have ee : Msub c u d - (sS (u &&& d) (fun x => sgZ (sgn (u ^^^ x) (d ^^^ x) d) (c (256 * (u ^^^ x) + (d ^^^ x)))) (u &&& d) - sS (u &&& d) (fun x => sgZ (sgn (u ^^^ x) (d ^^^ x) d) (c (256 * (u ^^^ x) + (d ^^^ x)))) (x' + 1)) - sgZ (sgn (u ^^^ (x' + 1)) (d ^^^ (x' + 1)) d) (c (256 * (u ^^^ (x' + 1)) + (d ^^^ (x' + 1)))) = Msub c u d - (sS (u &&& d) (fun x => sgZ (sgn (u ^^^ x) (d ^^^ x) d) (c (256 * (u ^^^ x) + (d ^^^ x)))) (u &&& d) - sS (u &&& d) (fun x => sgZ (sgn (u ^^^ x) (d ^^^ x) d) (c (256 * (u ^^^ x) + (d ^^^ x)))) (x' &&& (u &&& d))) := by
        rw [hst]; omega
      rw [ee]
      refine ih (x' &&& (u &&& d)) ok _ _ m nu nd nn fd ?_ ?_ hm hfd hro
      · have : x' &&& (u &&& d) ≤ x' := Nat.and_le_left
        omega
      · rw [Nat.and_assoc, Nat.and_self]
theorem ro_in {k9 : K9} {u : Nat} (hF : 300 < F) (hn : n0 ≤ 8) (hu : u < 2 ^ n0) (hsml : ∀ x, Sml (c x)) (hX : MX n0 ot (Msub c)) :
    ∀ (f q d : Nat) (ok : Bool) (a b : Int32) (m : Nat) (nu nd : Nat → Int32) (nn fd : Nat → Int64), q < f → d + q = 2 ^ n0 → m ≤ 60 → FD c n0 u d fd → RO c ok (256 * u + d) m nu nd nn →
      ∃ ok' a' b' m' nu' nd' nn' fd', b_Mo_readOff_19 F k9 (nI n0) ot f (b2 ok) (nI u) (nI d) a b (nI m) nu nd nn fd = k9 (b2 ok') (nI (u + 1)) a' b' (nI m') nu' nd' nn' fd' ∧ m' ≤ 60 ∧ FD c n0 u (2 ^ n0) fd' ∧ RO c ok' (256 * u + 2 ^ n0) m' nu' nd' nn' := by
  intro f
  induction f with
  | zero => intro q d ok a b m nu nd nn fd h1; omega
  | succ f ih =>
    intro q d ok a b m nu nd nn fd h1 h2 hm hfd hro
    have h8 := n8 hn
    rw [b_Mo_readOff_19, states_all hn]
    simp only [Option.bind_some]
    rw [if_le (by omega) (by omega)]
    cases q with
    | zero =>
      rw [if_pos (by omega), nm_def, nI_1]
      rw [show d = 2 ^ n0 by omega] at hfd hro
      exact ⟨ok, a, b, m, nu, nd, nn, fd, rfl, hm, hfd, hro⟩
    | succ q =>
      have hand : u &&& d < 256 := and_lt_l (by omega)
      rw [if_neg (by omega), ofs, nm_def, ck_n (by omega) (by decide), nm_def, nI_clamp (by omega), nm_def, nI_and, hX u hu d (by omega)]
      obtain ⟨ok', a', b', m', nu', nd', nn', fd', e, g1, g2, g3⟩ := sub_loop (F := F) (c := c) (ot := ot) (k9 := k9) (k19 := b_Mo_readOff_19 F k9 (nI n0) ot f) hF hn hu (show d < 2 ^ n0 by omega) hsml F (u &&& d) ok a b m nu nd nn fd (by omega) (Nat.and_self _) hm hfd hro
      rw [Int.sub_self, Int.sub_zero] at e
      rw [e]
      exact ih q (d + 1) ok' a' b' m' nu' nd' nn' fd' (by omega) (by omega) g1 g2 g3
theorem RO.skip {ok : Bool} {p p' m : Nat} {nu nd : Nat → Int32} {nn : Nat → Int64} (h : RO c ok p m nu nd nn) (hp : p ≤ p') (hz : ∀ x, p ≤ x → x < p' → c x = 0) : RO c ok p' m nu nd nn := by
  rcases h with ⟨rfl, K', V', a, b⟩ | ⟨rfl, a⟩
  · exact Or.inl ⟨rfl, K', V', a.skip hp hz, b⟩
  · exact Or.inr ⟨rfl, a⟩
theorem ro_out (hF : 300 < F) (hn : n0 ≤ 8) (hsml : ∀ x, Sml (c x)) (hX : MX n0 ot (Msub c)) (hsup : ∀ x, c x ≠ 0 → x / 256 < 2 ^ n0 ∧ x % 256 < 2 ^ n0) :
    ∀ (f q u : Nat) (ok : Bool) (a b : Int32) (m : Nat) (nu nd : Nat → Int32) (nn fd : Nat → Int64), q < f → u + q = 2 ^ n0 → m ≤ 60 → FD c n0 u 0 fd → RO c ok (256 * u) m nu nd nn →
      ∃ ok' a' b' m' nu' nd' nn' fd', b_Mo_readOff_9 F (nI n0) ot f (b2 ok) (nI u) a b (nI m) nu nd nn fd = some (b2 ok', a', b', nI m', nu', nd', nn', fd') ∧ m' ≤ 60 ∧ RO c ok' 131072 m' nu' nd' nn' := by
  intro f
  induction f with
  | zero => intro q u ok a b m nu nd nn fd h1; omega
  | succ f ih =>
    intro q u ok a b m nu nd nn fd h1 h2 hm hfd hro
    have h8 := n8 hn
    rw [b_Mo_readOff_9, states_all hn]
    simp only [Option.bind_some]
    rw [if_le (by omega) (by omega)]
    cases q with
    | zero =>
      rw [if_pos (by omega), b2_ck]
      refine ⟨ok, a, b, m, nu, nd, nn, fd, rfl, hm, hro.skip (by omega) (fun x q1 q2 => ?_)⟩
      rcases Int.decEq (c x) 0 with q | q
      · have := (hsup x q).1; omega
      · exact q
    | succ q =>
      rw [if_neg (by omega)]
      obtain ⟨ok', a', b', m', nu', nd', nn', fd', e, g1, g2, g3⟩ := ro_in (F := F) (c := c) (ot := ot) (k9 := b_Mo_readOff_9 F (nI n0) ot f) hF hn (show u < 2 ^ n0 by omega) hsml hX F (2 ^ n0) 0 ok a b m nu nd nn fd (by omega) (by omega) hm hfd hro
      have e' : b_Mo_readOff_19 F (b_Mo_readOff_9 F (nI n0) ot f) (nI n0) ot F (b2 ok) (nI u) 0 a b (nI m) nu nd nn fd = b_Mo_readOff_9 F (nI n0) ot f (b2 ok') (nI (u + 1)) a' b' (nI m') nu' nd' nn' fd' := e
      rw [e']
      refine ih q (u + 1) ok' a' b' m' nu' nd' nn' fd' (by omega) (by omega) g1 (fun u' q1 d' q2 q3 => g2 u' q1 d' q2 (by omega)) (g3.skip (by omega) (fun x q1 q2 => ?_))
      rcases Int.decEq (c x) 0 with q | q
      · have := (hsup x q).2; omega
      · exact q
theorem readOff_all (hF : 300 < F) (hn : n0 ≤ 8) (hsml : ∀ x, Sml (c x)) (hX : MX n0 ot (Msub c)) (hsup : ∀ x, c x ≠ 0 → x / 256 < 2 ^ n0 ∧ x % 256 < 2 ^ n0) (a b nm0 : Int32) (nu nd : Nat → Int32) (nn fd : Nat → Int64) :
    ∃ ok' a' b' m' nu' nd' nn' fd', f_Mo_readOff F (nI n0) a b nm0 ot nu nd nn fd = some (b2 ok', a', b', nI m', nu', nd', nn', fd') ∧ m' ≤ 60 ∧ RO c ok' 131072 m' nu' nd' nn' := by
  have h8 := n8 hn
  exact ro_out hF hn hsml hX hsup F (2 ^ n0) 0 true a b 0 nu nd nn fd (by omega) (by omega) (by omega) (fun u' q1 d' q2 q3 => by omega) (Or.inl ⟨rfl, fun _ => 0, fun _ => 0, Scan.nil _ _ _, rfl, fun i hi => by omega⟩)
end
