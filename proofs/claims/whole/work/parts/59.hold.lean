/-! the program's picture: one set of flips held -/
abbrev FL (n : Nat) (R K : Nat → Nat) (i : Nat) : Nat := wrt n R (K i / 256 ^^^ K i % 256)
theorem flip_amp {n U D y fl : Nat} {R B : Nat → Nat} {v : Int} (hI : Inv n R B) (hU : U < 2 ^ n) (hD : D < 2 ^ n) (hfl : fl < 2 ^ n) : amp U D (wrt n B y) (wrt n B (y ^^^ fl)) v = if wrt n R (U ^^^ D) = fl then (if acts U D (wrt n B y) = true then sgZ (sgn U D (wrt n B y)) v else 0) else 0 := by
  have hx : U ^^^ D < 2 ^ n := Nat.xor_lt_two_pow hU hD
  rw [wrt_xor]
  have key : (wrt n B y ^^^ D ^^^ U = wrt n B y ^^^ wrt n B fl) ↔ wrt n R (U ^^^ D) = fl := by
    have e : wrt n B y ^^^ D ^^^ U = wrt n B y ^^^ (U ^^^ D) := by rw [Nat.xor_assoc, Nat.xor_comm D]
    rw [e]
    constructor
    · intro h
      have h2 : U ^^^ D = wrt n B fl := by
        have := congrArg (fun z => wrt n B y ^^^ z) h
        simp only [← Nat.xor_assoc, Nat.xor_self, Nat.zero_xor] at this
        exact this
      rw [h2]; exact hI.symm hfl
    · intro h
      rw [← h, hI.2 _ hx]
  cases ha : acts U D (wrt n B y) with
  | true =>
    rw [amp_one ha]
    by_cases q : wrt n R (U ^^^ D) = fl
    · rw [if_pos q, if_pos (key.mpr q), if_pos rfl]
    · rw [if_neg q, if_neg (fun r => q (key.mp r))]
  | false =>
    rw [amp_none ha, if_neg (show ¬ false = true by decide), ite_self]
section
variable {F n len fl : Nat} {R B K : Nat → Nat} {V : Nat → Int} {keys numbers2 back flipsOf : Nat → Int32}
theorem hold_zero {x1 held : Int32} {sp : Nat → Int32} {c2 : Int32} (hn : n ≤ 8) :
    ∀ (f d s : Nat) (nb : Nat → Int64), d < f → s + d = 2 ^ n → (∀ s', s' < s → nb s' = 0) →
      ∃ nb', b_Pi_hold_11 F flipsOf c2 keys numbers2 (nI n) back f x1 (nI (2 ^ n)) (nI s) held nb sp = b_Pi_hold_35 F flipsOf c2 keys numbers2 (nI n) back F x1 0 held nb' sp ∧ ∀ s', s' < 2 ^ n → nb' s' = 0 := by
  intro f
  induction f with
  | zero => intro d s nb h1; omega
  | succ f ih =>
    intro d s nb h1 h2 h3
    have h8 := n8 hn
    rw [b_Pi_hold_11, if_le (by omega) (by omega)]
    cases d with
    | zero => rw [if_pos (by omega)]; exact ⟨nb, rfl, fun s' q => h3 s' (by omega)⟩
    | succ d =>
      rw [if_neg (by omega), ck_n (by omega) (by decide), nm_def, nI_clamp (by omega), nI_1]
      refine ih d (s + 1) _ (by omega) (by omega) (fun s' q => ?_)
      by_cases e : s' = s
      · rw [e, updL_at]
      · rw [updL_ne e]; exact h3 s' (by omega)
theorem hold_loop {held : Int32} (hF : 300 < F) (hn : n ≤ 8) (hO : SumOk n len K V) (hC : SumC (nI len) keys numbers2 len K V) (hI : Inv n R B) (hB : AR n back B) (hfl : fl < 2 ^ n) (hfo : ∀ i, i < len → flipsOf i = nI (FL n R K i)) :
    ∀ (f d i : Nat) (nb : Nat → Int64) (sp : Nat → Int32) (N : Nat → Int), d < f → i + d = len → NR n nb N → (∀ y, y < 2 ^ n → WH n N y = 2 ^ n * sumZ i (fun i => amp (K i / 256) (K i % 256) (wrt n B y) (wrt n B (y ^^^ fl)) (V i))) →
      ∃ nb' sp', b_Pi_hold_35 F flipsOf (nI len) keys numbers2 (nI n) back f (nI fl) (nI i) held nb sp = some (nI fl, nb', sp') ∧ NR n nb' (Gm n B (Mat len K V) fl) := by
  intro f
  induction f with
  | zero => intro d i nb sp N h1; omega
  | succ f ih =>
    intro d i nb sp N h1 h2 hN hW
    have h8 := n8 hn
    have hl := hO.1
    rw [b_Pi_hold_35, if_le (by omega) (by omega)]
    cases d with
    | zero =>
      have e : i = len := by omega
      subst e
      rw [if_pos (Nat.le_refl _)]
      refine ⟨nb, sp, rfl, fun s hs => ?_⟩
      rw [hN s hs, WH_inv hn hW hs]; rfl
    | succ d =>
      have hil : i < len := by omega
      obtain ⟨k1, k2, k3⟩ := hO.key hn hil
      have hV := hO.2.2 i hil
      have hFL : FL n R K i < 2 ^ n := wrt_lt R (K i / 256 ^^^ K i % 256) n
      rw [if_neg (by omega), ck_n (by omega) (by decide), nI_clamp (by omega), hfo i hil, if_eqn (by omega) (by omega)]
      by_cases q : FL n R K i = fl
      · rw [if_pos q, ups_all hC hl hil k1]
        simp only [Option.bind_some]
        rw [downs_all hC hl hil k1]
        simp only [Option.bind_some]
        rw [ck_n (by omega) (by decide), (hC.2 i hil).2]
        obtain ⟨nb', sp', N', e, g1, g2⟩ := bring_all (F := F) (sp := sp) hF hn hV.2.2.2.1 hV.2.2.2.2 hV.2.1 hV.2.2.1 (fun w hw => ⟨hB w hw, (hI.1 w hw).2⟩) hN
        rw [e]
        simp only [Option.bind_some]
        rw [b_Pi_hold_79, nm_def, nI_1]
        refine ih d (i + 1) nb' sp' N' (by omega) (by omega) g1 (fun y hy => ?_)
        simp only [sumZ]
        rw [g2 y hy, hW y hy, flip_amp hI hV.2.2.2.1 hV.2.2.2.2 hfl, if_pos q, Int.mul_add]
      · rw [if_neg q, b_Pi_hold_79, nm_def, nI_1]
        refine ih d (i + 1) nb sp N (by omega) (by omega) hN (fun y hy => ?_)
        simp only [sumZ]
        rw [hW y hy, flip_amp hI hV.2.2.2.1 hV.2.2.2.2 hfl, if_neg q, Int.add_zero]
theorem hold_all {held : Int32} (hF : 300 < F) (hn : n ≤ 8) (hO : SumOk n len K V) (hC : SumC (nI len) keys numbers2 len K V) (hI : Inv n R B) (hB : AR n back B) (hfl : fl < 2 ^ n) (hfo : ∀ i, i < len → flipsOf i = nI (FL n R K i)) (nb : Nat → Int64) (sp : Nat → Int32) :
    ∃ nb' sp', f_Pi_hold F held flipsOf nb sp (nI len) keys numbers2 (nI n) back (nI fl) = some (nI fl, nb', sp') ∧ NR n nb' (Gm n B (Mat len K V) fl) := by
  have h8 := n8 hn
  have hl := hO.1
  obtain ⟨nb1, e1, h1⟩ := hold_zero (F := F) (flipsOf := flipsOf) (keys := keys) (numbers2 := numbers2) (back := back) (x1 := nI fl) (held := held) (sp := sp) (c2 := nI len) hn F (2 ^ n) 0 nb (by omega) (by omega) (fun s' q => by omega)
  obtain ⟨nb', sp', e2, h2⟩ := hold_loop (F := F) (held := held) hF hn hO hC hI hB hfl hfo F len 0 nb1 sp (fun _ => 0) (by omega) (by omega) (fun s hs => by rw [h1 s hs]; rfl) (fun y _ => by
    rw [WH, sumZ_zero (fun _ _ => sgZ_0 _)]; simp [sumZ])
  refine ⟨nb', sp', ?_, h2⟩
  rw [f_Pi_hold, sh1 n (by omega), nm_def]
  have e1' : b_Pi_hold_11 F flipsOf (nI len) keys numbers2 (nI n) back F (nI fl) (nI (2 ^ n)) 0 held nb sp = b_Pi_hold_35 F flipsOf (nI len) keys numbers2 (nI n) back F (nI fl) (nI 0) held nb1 sp := e1
  rw [e1', e2]
theorem G_zero (hO : SumOk n len K V) (hI : Inv n R B) (hfl : fl < 2 ^ n) (h : ∀ i, i < len → FL n R K i ≠ fl) (s : Nat) : Gm n B (Mat len K V) fl s = 0 := by
  rw [Gm, WH, sumZ_zero]
  intro y _
  have : Mat len K V (wrt n B (y ^^^ fl)) (wrt n B y) = 0 := by
    rw [Mat, sumZ_zero]
    intro i hi
    have hV := hO.2.2 i hi
    rw [flip_amp hI hV.2.2.2.1 hV.2.2.2.2 hfl, if_neg (h i hi)]
  rw [this, sgZ_0]
/-! marks -/
def MK (n len : Nat) (R K : Nat → Nat) (i : Nat) (fo ta : Nat → Int32) : Prop := (∀ j, j < i → fo j = nI (FL n R K j)) ∧ ∀ f, f < 256 → (ta f = nI 1 ∧ ∃ j, j < i ∧ FL n R K j = f) ∨ (ta f = nI 0 ∧ ∀ j, j < i → FL n R K j ≠ f)
theorem mark_loop {rows : Nat → Int32} {c : Int32} (hF : 300 < F) (hn : n ≤ 8) (hO : SumOk n len K V) (hC : SumC c keys numbers2 len K V) (hR : AR n rows R) (hRl : ∀ w, w < n → R w < 2 ^ n) :
    ∀ (f d i : Nat) (fo ta : Nat → Int32), d < f → i + d = len → MK n len R K i fo ta → ∃ fo' ta', b_Pi_markFlips_24 F (nI len) keys (nI n) rows f (nI i) fo ta = some (fo', ta') ∧ MK n len R K len fo' ta' := by
  intro f
  induction f with
  | zero => intro d i fo ta h1; omega
  | succ f ih =>
    intro d i fo ta h1 h2 h3
    have h8 := n8 hn
    have hl := hO.1
    rw [b_Pi_markFlips_24, if_le (by omega) (by omega)]
    cases d with
    | zero =>
      have e : i = len := by omega
      subst e
      rw [if_pos (Nat.le_refl _)]; exact ⟨fo, ta, rfl, h3⟩
    | succ d =>
      have hil : i < len := by omega
      obtain ⟨k1, k2, k3⟩ := hO.key hn hil
      have hFL := wrt_lt R (K i / 256 ^^^ K i % 256) n
      rw [if_neg (by omega), ups_all hC hl hil k1]
      simp only [Option.bind_some]
      rw [downs_all hC hl hil k1]
      simp only [Option.bind_some]
      rw [nI_xor, bits_all (R := R) (by omega) hn (xor_lt k2 k3) (fun w hw => ⟨hR w hw, by have := hRl w hw; omega⟩)]
      simp only [Option.bind_some]
      rw [ck_n (by omega) (by decide), ck_n (by omega) (by decide), nI_clamp (by omega), upd_at, ck_n (by omega) (by decide), nm_def, nI_clamp (by omega), nI_1]
      refine ih d (i + 1) _ _ (by omega) (by omega) ⟨fun j hj => ?_, fun g hg => ?_⟩
      · by_cases e : j = i
        · rw [e, upd_at]
        · rw [upd_ne e]; exact h3.1 j (by omega)
      · by_cases e : g = FL n R K i
        · rw [e, upd_at]; exact Or.inl ⟨rfl, i, by omega, rfl⟩
        · rw [upd_ne e]
          rcases h3.2 g hg with ⟨a, j, b, c⟩ | ⟨a, b⟩
          · exact Or.inl ⟨a, j, by omega, c⟩
          · refine Or.inr ⟨a, fun j hj => ?_⟩
            by_cases e2 : j = i
            · rw [e2]; exact fun q => e q.symm
            · exact b j (by omega)
theorem mark_zero {rows : Nat → Int32} {c : Int32} {fo : Nat → Int32} : ∀ (f d g : Nat) (ta : Nat → Int32), d < f → g + d = 256 → (∀ g', g' < g → ta g' = nI 0) → ∃ ta', b_Pi_markFlips_2 F c keys (nI n) rows f (nI g) fo ta = b_Pi_markFlips_24 F c keys (nI n) rows F 0 fo ta' ∧ ∀ g', g' < 256 → ta' g' = nI 0 := by
  intro f
  induction f with
  | zero => intro d i ta h1; omega
  | succ f ih =>
    intro d g ta h1 h2 h3
    rw [b_Pi_markFlips_2, show (256 : Int32) = nI 256 from rfl, if_le (by omega) (by omega)]
    cases d with
    | zero => rw [if_pos (by omega)]; exact ⟨ta, rfl, fun g' q => h3 g' (by omega)⟩
    | succ d =>
      rw [if_neg (by omega), ck_n (by omega) (by decide), nm_def, nI_clamp (by omega), nI_1]
      refine ih d (g + 1) _ (by omega) (by omega) (fun g' q => ?_)
      by_cases e : g' = g
      · rw [e, upd_at]; rfl
      · rw [upd_ne e]; exact h3 g' (by omega)
theorem mark_all {rows : Nat → Int32} (hF : 300 < F) (hn : n ≤ 8) (hO : SumOk n len K V) (hC : SumC (nI len) keys numbers2 len K V) (hR : AR n rows R) (hRl : ∀ w, w < n → R w < 2 ^ n) (fo ta : Nat → Int32) : ∃ fo' ta', f_Pi_markFlips F fo ta (nI len) keys (nI n) rows = some (fo', ta') ∧ MK n len R K len fo' ta' := by
  have hl := hO.1
  obtain ⟨ta1, e1, h1⟩ := mark_zero (F := F) (keys := keys) (n := n) (rows := rows) (c := nI len) (fo := fo) F 256 0 ta (by omega) (by omega) (fun g' q => by omega)
  obtain ⟨fo', ta', e2, h2⟩ := mark_loop (F := F) hF hn hO hC hR hRl F len 0 fo ta1 (by omega) (by omega) ⟨fun j hj => by omega, fun g hg => Or.inr ⟨h1 g hg, fun j hj => by omega⟩⟩
  refine ⟨fo', ta', ?_, h2⟩
  have e1' : f_Pi_markFlips F fo ta (nI len) keys (nI n) rows = b_Pi_markFlips_24 F (nI len) keys (nI n) rows F (nI 0) fo ta1 := e1
  rw [e1', e2]
end
/-! the low digits -/
def LZ (k : Nat) (w : Int64) : Prop := ∀ i, i < k → w.toBitVec.getLsbD i = false
theorem LZ_or {k : Nat} {a b : Int64} : LZ k (a ||| b) ↔ LZ k a ∧ LZ k b := by
  constructor
  · intro h
    refine ⟨fun i hi => ?_, fun i hi => ?_⟩
    · have := h i hi
      rw [Int64.toBitVec_or, BitVec.getLsbD_or] at this
      simp at this; exact this.1
    · have := h i hi
      rw [Int64.toBitVec_or, BitVec.getLsbD_or] at this
      simp at this; exact this.2
  · rintro ⟨h1, h2⟩ i hi
    rw [Int64.toBitVec_or, BitVec.getLsbD_or, h1 i hi, h2 i hi]; rfl
theorem LZ_0 (k : Nat) : LZ k 0 := fun i _ => by
  rw [show (0 : Int64).toBitVec = 0#64 from rfl]; simp
theorem tb_mod {m k : Nat} : (∀ i, i < k → m.testBit i = false) ↔ m % 2 ^ k = 0 := by
  constructor
  · intro h
    apply Nat.eq_of_testBit_eq
    intro i
    rw [Nat.testBit_mod_two_pow, Nat.zero_testBit]
    by_cases q : i < k
    · rw [h i q]; simp
    · simp [q]
  · intro h i hi
    have := Nat.testBit_mod_two_pow m k i
    rw [h, Nat.zero_testBit] at this
    simp [hi] at this
    exact this
theorem LZ_of {k : Nat} (hk : k < 9) {g : Int} : LZ k (Int64.ofInt g) ↔ (2 : Int) ^ k ∣ g := by
  have e : (Int64.ofInt g).toBitVec = BitVec.ofInt 64 g := rfl
  have e2 : (BitVec.ofInt 64 g).toNat = (g % 18446744073709551616).toNat := by rw [BitVec.toNat_ofInt]; rfl
  have e3 : LZ k (Int64.ofInt g) ↔ (g % 18446744073709551616).toNat % 2 ^ k = 0 := by
    rw [← tb_mod, ← e2]
    exact Iff.rfl
  rw [e3]
  have : k = 0 ∨ k = 1 ∨ k = 2 ∨ k = 3 ∨ k = 4 ∨ k = 5 ∨ k = 6 ∨ k = 7 ∨ k = 8 := by omega
  rcases this with rfl | rfl | rfl | rfl | rfl | rfl | rfl | rfl | rfl
  · show _ % 1 = 0 ↔ (1 : Int) ∣ g; omega
  · show _ % 2 = 0 ↔ (2 : Int) ∣ g; omega
  · show _ % 4 = 0 ↔ (4 : Int) ∣ g; omega
  · show _ % 8 = 0 ↔ (8 : Int) ∣ g; omega
  · show _ % 16 = 0 ↔ (16 : Int) ∣ g; omega
  · show _ % 32 = 0 ↔ (32 : Int) ∣ g; omega
  · show _ % 64 = 0 ↔ (64 : Int) ∣ g; omega
  · show _ % 128 = 0 ↔ (128 : Int) ∣ g; omega
  · show _ % 256 = 0 ↔ (256 : Int) ∣ g; omega
theorem msk : ∀ n, n < 9 → (((1 : Int64) <<< ((nI n).toInt64 &&& 63)) - 1) = Int64.ofNat (2 ^ n - 1) := by decide +kernel
theorem msk_bit {n i : Nat} (hn : n ≤ 8) (hi : i < 64) : (Int64.ofNat (2 ^ n - 1)).toBitVec.getLsbD i = decide (i < n) := by
  have e : (Int64.ofNat (2 ^ n - 1)).toBitVec = BitVec.ofNat 64 (2 ^ n - 1) := rfl
  rw [e, BitVec.getLsbD_ofNat, Nat.testBit_two_pow_sub_one]
  simp [hi]
theorem shl_bit {h i : Nat} (hh : h < 9) (hi : i < 64) (d : Int64) : (d <<< ((nI h).toInt64 &&& 63)).toBitVec.getLsbD i = (decide (h ≤ i) && d.toBitVec.getLsbD (i - h)) := by
  obtain ⟨s1, s2, s3⟩ := shk h hh
  have e : (d <<< ((nI h).toInt64 &&& 63)).toBitVec = d.toBitVec <<< (((nI h).toInt64 &&& 63).toBitVec.smod 64) := rfl
  rw [e, s1]
  have e2 : d.toBitVec <<< (BitVec.ofNat 64 h) = d.toBitVec <<< (BitVec.ofNat 64 h).toNat := rfl
  rw [e2, s2, BitVec.getLsbD_shiftLeft]
  by_cases q : i < h
  · simp [q, show ¬ h ≤ i by omega]
  · simp [q, show h ≤ i by omega, hi]
theorem half_iff {n h : Nat} (hn : n ≤ 8) (hh : h < n) (d : Int64) : lg_cmp ((d <<< ((nI h).toInt64 &&& 63)) &&& Int64.ofNat (2 ^ n - 1)) 0 = 0 ↔ LZ (n - h) d := by
  rw [cmp_eq]
  constructor
  · intro q i hi
    have := congrArg (fun w => w.toBitVec.getLsbD (i + h)) q
    simp only [Int64.toBitVec_and, BitVec.getLsbD_and] at this
    rw [shl_bit (by omega) (by omega), msk_bit hn (by omega), show (0 : Int64).toBitVec = 0#64 from rfl] at this
    simp [show i + h < n by omega] at this
    exact this
  · intro q
    apply Int64.toBitVec_inj.mp
    apply BitVec.eq_of_getLsbD_eq
    intro i hi
    rw [Int64.toBitVec_and, BitVec.getLsbD_and, shl_bit (by omega) hi, msk_bit hn hi, show (0 : Int64).toBitVec = 0#64 from rfl]
    by_cases a : h ≤ i ∧ i < n
    · rw [q (i - h) (by omega)]; simp
    · by_cases b : h ≤ i
      · simp [show ¬ i < n by omega]
      · simp [b]
theorem least_loop {F n : Nat} {d : Int64} (hn : n ≤ 8) : ∀ (f q h : Nat), q < f → h + q = n → (h = 0 ∨ ¬ LZ (n - h + 1) d) → ∃ h', b_Pi_leastHalvings_9 F f d (nI n) (Int64.ofNat (2 ^ n - 1)) (nI h) = some (nI h') ∧ h' ≤ n ∧ LZ (n - h') d ∧ (h' = 0 ∨ ¬ LZ (n - h' + 1) d) := by
  intro f
  induction f with
  | zero => intro q h h1; omega
  | succ f ih =>
    intro q h h1 h2 h3
    rw [b_Pi_leastHalvings_9, if_le (by omega) (by omega)]
    cases q with
    | zero =>
      rw [if_pos (by omega)]
      exact ⟨h, rfl, by omega, fun i hi => by omega, h3⟩
    | succ q =>
      rw [if_neg (by omega)]
      by_cases c : LZ (n - h) d
      · rw [if_pos ((half_iff hn (by omega) d).mpr c)]
        exact ⟨h, rfl, by omega, c, h3⟩
      · rw [if_neg (fun r => c ((half_iff hn (by omega) d).mp r)), nm_def, nI_1]
        exact ih q (h + 1) (by omega) (by omega) (Or.inr (by rw [show n - (h + 1) + 1 = n - h by omega]; exact c))
theorem least_all {F n : Nat} {d : Int64} (hF : 20 < F) (hn : n ≤ 8) : ∃ h', f_Pi_leastHalvings F d (nI n) = some (nI h') ∧ h' ≤ n ∧ LZ (n - h') d ∧ (h' = 0 ∨ ¬ LZ (n - h' + 1) d) := by
  rw [f_Pi_leastHalvings, msk n (by omega), nm_def]
  exact least_loop hn F n 0 (by omega) (by omega) (Or.inl rfl)
