/-! the program's picture: what one product brings -/
theorem shk : ∀ k, k < 9 → ((nI k).toInt64 &&& 63).toBitVec.smod 64 = BitVec.ofNat 64 k ∧ (BitVec.ofNat 64 k).toNat = k ∧ BitVec.twoPow 64 k = BitVec.ofInt 64 (2 ^ k) := by decide +kernel
theorem shl64 {k : Nat} (hk : k < 9) (v : Int) : Int64.ofInt v <<< ((nI k).toInt64 &&& 63) = Int64.ofInt (v * 2 ^ k) := by
  obtain ⟨s1, s2, s3⟩ := shk k hk
  apply Int64.toBitVec_inj.mp
  show (Int64.ofInt v).toBitVec <<< (((nI k).toInt64 &&& 63).toBitVec.smod 64) = (Int64.ofInt (v * 2 ^ k)).toBitVec
  rw [s1]
  show (Int64.ofInt v).toBitVec <<< (BitVec.ofNat 64 k).toNat = (Int64.ofInt (v * 2 ^ k)).toBitVec
  rw [s2, BitVec.shiftLeft_eq_mul_twoPow, s3, Int64.ofInt_mul, Int64.toBitVec_mul]
  rfl
theorem signs_loop {F n A : Nat} {back : Nat → Int32} {B : Nat → Nat} (hn : n ≤ 8) (hA : A < 2 ^ n) (hB : ∀ w, w < n → back w = nI (B w) ∧ B w < 2 ^ n) :
    ∀ (f d m r : Nat), d < f → m + d = n → r < 2 ^ n → (∀ y, od (r &&& y) = od (lo A m &&& wrt n B y)) → ∃ r', b_Wi_signsOf_4 F (nI n) back f (nI A) (nI r) (nI m) = some (nI r') ∧ r' < 2 ^ n ∧ ∀ y, od (r' &&& y) = od (A &&& wrt n B y) := by
  intro f
  induction f with
  | zero => intro d m r h1; omega
  | succ f ih =>
    intro d m r h1 h2 hr h3
    have h8 := n8 hn
    rw [b_Wi_signsOf_4, if_le (by omega) (by omega)]
    cases d with
    | zero =>
      have e : m = n := by omega
      subst e
      rw [if_pos (Nat.le_refl _)]
      have e2 : lo A m = A := Nat.mod_eq_of_lt hA
      rw [e2] at h3
      exact ⟨r, rfl, hr, h3⟩
    | succ d =>
      obtain ⟨b1, b2'⟩ := hB m (by omega)
      rw [if_neg (by omega), has_all (by omega) (by omega)]
      simp only [Option.bind_some]
      cases hb : A.testBit m with
      | false =>
        rw [if_pos (by decide), b_Wi_signsOf_29, nm_def, nI_1]
        exact ih d (m + 1) r (by omega) (by omega) hr (fun y => by rw [lo_succ_f hb]; exact h3 y)
      | true =>
        rw [if_neg (by decide), ck_n (by omega) (by decide), nm_def, nI_clamp (by omega), b1, nI_xor, b_Wi_signsOf_29, nm_def, nI_1]
        refine ih d (m + 1) _ (by omega) (by omega) (Nat.xor_lt_two_pow hr b2') (fun y => ?_)
        have hw := wrt_lt B y n
        rw [od_and_r, h3 y, lo_succ_t hb, od_and_r (lo A m), od_bit m (by omega) _ (by omega), wrt_bit]
        simp [show m < n by omega]
theorem signs_all {F n A : Nat} {back : Nat → Int32} {B : Nat → Nat} (hF : 20 < F) (hn : n ≤ 8) (hA : A < 2 ^ n) (hB : ∀ w, w < n → back w = nI (B w) ∧ B w < 2 ^ n) :
    ∃ r', f_Wi_signsOf F (nI n) back (nI A) = some (nI r') ∧ r' < 2 ^ n ∧ ∀ y, od (r' &&& y) = od (A &&& wrt n B y) :=
  signs_loop hn hA hB F n 0 0 (by omega) (by omega) (Nat.two_pow_pos n) (fun y => by
    have e : lo A 0 = 0 := Nat.mod_one A
    rw [e, Nat.zero_and, Nat.zero_and])
theorem dbl_loop {F sz st : Nat} {E : Nat → Nat} (hsz : sz ≤ 128) :
    ∀ (f d k : Nat) (sp : Nat → Int32), d < f → k + d = sz → (∀ i, i < sz → sp i = nI (E i)) → (∀ i, i < k → sp (sz + i) = nI (E i ^^^ st)) →
      ∃ sp', b_Pi_doubled_2 F f (nI sz) (nI st) (nI k) sp = some (nI (2 * sz), sp') ∧ (∀ i, i < sz → sp' i = nI (E i)) ∧ ∀ i, i < sz → sp' (sz + i) = nI (E i ^^^ st) := by
  intro f
  induction f with
  | zero => intro d k sp h1; omega
  | succ f ih =>
    intro d k sp h1 h2 h3 h4
    rw [b_Pi_doubled_2, if_le (by omega) (by omega)]
    cases d with
    | zero =>
      rw [if_pos (by omega), show (2 : Int32) = nI 2 from rfl, pk_mul]
      exact ⟨sp, rfl, h3, fun i hi => h4 i (by omega)⟩
    | succ d =>
      rw [if_neg (by omega), ck_n (by omega) (by decide), nm_def, nI_clamp (by omega), h3 k (by omega), nI_xor, nI_add, ck_n (by omega) (by decide), nm_def, nI_clamp (by omega), nI_1]
      refine ih d (k + 1) _ (by omega) (by omega) (fun i hi => ?_) (fun i hi => ?_)
      · rw [upd_ne (by omega)]; exact h3 i hi
      · by_cases e : i = k
        · rw [e, upd_at]
        · rw [upd_ne (by omega)]; exact h4 i (by omega)
/-- an entry: signs, and 256 for a turn -/
def EN (n e : Nat) : Prop := e < 512 ∧ e % 256 < 2 ^ n
theorem EN.xor {n a b : Nat} (ha : EN n a) (hb : EN n b) : EN n (a ^^^ b) := by
  refine ⟨Nat.xor_lt_two_pow (n := 9) ha.1 hb.1, ?_⟩
  have : (a ^^^ b) % 2 ^ 8 = a % 2 ^ 8 ^^^ b % 2 ^ 8 := Nat.xor_mod_two_pow ..
  have : (a ^^^ b) % 256 = a % 256 ^^^ b % 256 := this
  rw [this]
  exact Nat.xor_lt_two_pow ha.2 hb.2
theorem od_en {n e y : Nat} (h : EN n e) (hy : y < 256) : od (e &&& (256 + y)) = (decide (256 ≤ e) ^^ od (e % 256 &&& y)) := by
  have := od_key (k := e) (A := 1) (B := y) (by have := h.1; omega) hy
  have this : od (e &&& (256 + y)) = (od (e / 256 &&& 1) ^^ od (e % 256 &&& y)) := this
  rw [this]
  have h1 := h.1
  by_cases q : 256 ≤ e
  · rw [show e / 256 = 1 by omega, show od (1 &&& 1) = true from by decide]; simp [q]
  · rw [show e / 256 = 0 by omega, show od (0 &&& 1) = false from by decide]; simp [q]
def fitB (T D z : Nat) : Nat → Bool
  | 0 => true
  | m + 1 => fitB T D z m && (!T.testBit m || (z.testBit m == D.testBit m))
theorem fitB_iff {T D z : Nat} : ∀ m, fitB T D z m = true ↔ ∀ i, i < m → T.testBit i = true → z.testBit i = D.testBit i := by
  intro m
  induction m with
  | zero => simp [fitB]
  | succ m ih =>
    rw [fitB, Bool.and_eq_true, ih]
    constructor
    · rintro ⟨h1, h2⟩ i hi ht
      by_cases e : i = m
      · subst e; rw [ht] at h2; simpa using h2
      · exact h1 i (by omega) ht
    · intro h
      refine ⟨fun i hi => h i (by omega), ?_⟩
      cases ht : T.testBit m
      · rfl
      · have := h m (by omega) ht; simp [this]
theorem fit_acts {n U D z : Nat} (hU : U < 2 ^ n) (hD : D < 2 ^ n) : fitB (U ||| D) D z n = acts U D z := by
  rw [Bool.eq_iff_iff, fitB_iff, acts_tb]
  constructor
  · intro h i
    by_cases hi : i < n
    · have := h i hi
      rw [Nat.testBit_or] at this
      revert this
      cases U.testBit i <;> cases D.testBit i <;> cases z.testBit i <;> simp
    · rw [tb_hi hU (by omega), tb_hi hD (by omega)]; simp
  · intro h i _ ht
    have := h i
    rw [Nat.testBit_or] at ht
    revert this ht
    cases U.testBit i <;> cases D.testBit i <;> cases z.testBit i <;> simp
theorem pcn_n : ∀ n, n ≤ 8 → ∀ T, T < 2 ^ n → pcn n T = pc T := by decide +kernel
/-- the sum of the entries' signs at y -/
def CS (sz : Nat) (E : Nat → Nat) (y : Nat) : Int := sumZ sz (fun k => sgZ (od (E k &&& (256 + y))) 1)
def SP (n : Nat) (B : Nat → Nat) (T D st : Nat) (m : Nat) (E : Nat → Nat) : Prop :=
  (∀ k, k < 2 ^ pcn m T → EN n (E k)) ∧ ∀ y, y < 2 ^ n → CS (2 ^ pcn m T) E y = if fitB T D (wrt n B y) m = true then sgZ (od (st &&& (256 + y))) (2 ^ pcn m T) else 0
def NR (n : Nat) (numbers : Nat → Int64) (N : Nat → Int) : Prop := ∀ s, s < 2 ^ n → numbers s = Int64.ofInt (N s)
theorem acc_loop {F n sz : Nat} {size4 : Int32} {back4 : Nat → Int32} {E : Nat → Nat} {sh : Int} {sp : Nat → Int32} {N0 : Nat → Int} (hn : n ≤ 8) (hsz : sz ≤ 256) (hE : ∀ k, k < sz → EN n (E k)) (hsp : ∀ k, k < sz → sp k = nI (E k)) :
    ∀ (f d k : Nat) (nb : Nat → Int64) (N : Nat → Int), d < f → k + d = sz → NR n nb N → (∀ y, y < 2 ^ n → WH n N y = WH n N0 y + sumZ k (fun k => sgZ (od (E k &&& (256 + y))) sh)) →
      ∃ nb' N', b_Pi_bring_135 F size4 back4 f (nI sz) (Int64.ofInt sh) (nI k) nb sp = some (nb', sp) ∧ NR n nb' N' ∧ ∀ y, y < 2 ^ n → WH n N' y = WH n N0 y + sumZ sz (fun k => sgZ (od (E k &&& (256 + y))) sh) := by
  intro f
  induction f with
  | zero => intro d k nb N h1; omega
  | succ f ih =>
    intro d k nb N h1 h2 hN hW
    have h8 := n8 hn
    rw [b_Pi_bring_135, if_le (by omega) (by omega)]
    cases d with
    | zero =>
      have e : k = sz := by omega
      subst e
      rw [if_pos (Nat.le_refl _)]
      exact ⟨nb, N, rfl, hN, hW⟩
    | succ d =>
      have hEk := hE k (by omega)
      have h512 := hEk.1
      have hmod := hEk.2
      have e255 : nI (E k) &&& 255 = nI (E k % 256) := pk_andN (by omega) 8 (by decide)
      rw [if_neg (by omega), ck_n (by omega) (by decide), nI_clamp (by omega), hsp k (by omega), e255, nm_def, ck_n (by omega) (by decide), ck_n (by omega) (by decide), nI_clamp (by omega), hN _ hmod, show (256 : Int32) = nI 256 from rfl, if_lt (by omega) (by omega)]
      have next : ∀ v : Int, v = sgZ (decide (256 ≤ E k)) sh → ∃ nb' N', b_Pi_bring_180 F (b_Pi_bring_135 F size4 back4 f) size4 back4 (nI sz) (Int64.ofInt sh) (nI k) (nI (E k % 256)) (Int64.ofInt (N (E k % 256))) (Int64.ofInt v) nb sp = some (nb', sp) ∧ NR n nb' N' ∧ ∀ y, y < 2 ^ n → WH n N' y = WH n N0 y + sumZ sz (fun k => sgZ (od (E k &&& (256 + y))) sh) := fun v hv => by
        rw [b_Pi_bring_180, nm_def, ck_n (by omega) (by decide), nm_def, nI_clamp (by omega), nI_1, ← Int64.ofInt_add]
        refine ih d (k + 1) _ (fun s => N s + if s = E k % 256 then v else 0) (by omega) (by omega) (fun s hs => ?_) (fun y hy => ?_)
        · by_cases e : s = E k % 256
          · rw [e, updL_at]; simp
          · rw [updL_ne e, hN s hs]; simp [e]
        · rw [WH_add, WH_one hmod, hW y hy]
          simp only [sumZ]
          rw [od_en hEk (by omega), hv, sgZ_xor, Nat.and_comm y, Bool.xor_comm]; omega
      by_cases q : E k < 256
      · rw [if_pos q]
        exact next sh (by simp [show ¬ 256 ≤ E k by omega, sgZ])
      · rw [if_neg q, ← Int64.ofInt_neg]
        exact next (-sh) (by simp [show 256 ≤ E k by omega, sgZ])
theorem CS_dbl {sz st : Nat} {E E' : Nat → Nat} {y : Nat} (h1 : ∀ i, i < sz → E' i = E i) (h2 : ∀ i, i < sz → E' (sz + i) = E i ^^^ st) : CS (2 * sz) E' y = CS sz E y + sgZ (od (st &&& (256 + y))) (CS sz E y) := by
  rw [CS, show 2 * sz = sz + sz by omega, sumZ_app, CS, sgZ_sum]
  have e1 : sumZ sz (fun k => sgZ (od (E' k &&& (256 + y))) 1) = sumZ sz (fun k => sgZ (od (E k &&& (256 + y))) 1) := sumZ_cong (fun i hi => by rw [h1 i hi])
  have e2 : sumZ sz (fun i => sgZ (od (E' (sz + i) &&& (256 + y))) 1) = sumZ sz (fun k => sgZ (od (st &&& (256 + y))) (sgZ (od (E k &&& (256 + y))) 1)) := sumZ_cong (fun i hi => by rw [h2 i hi, od_and_r, sgZ_xor, Bool.xor_comm])
  rw [e1, e2]
theorem EN_step {n b : Nat} (hn : n ≤ 8) (hb : b < 2 ^ n) (t : Bool) : EN n (b + if t then 256 else 0) := by
  have h8 := n8 hn
  cases t
  · exact ⟨by simp; omega, by simp; omega⟩
  · exact ⟨by simp; omega, by simp; omega⟩
theorem od_step {n b y : Nat} (hn : n ≤ 8) (hb : b < 2 ^ n) (hy : y < 256) (t : Bool) : od ((b + if t then 256 else 0) &&& (256 + y)) = (t ^^ od (b &&& y)) := by
  have h8 := n8 hn
  rw [od_en (EN_step hn hb t) hy]
  cases t
  · simp [show ¬ 256 ≤ b by omega, Nat.mod_eq_of_lt (show b < 256 by omega)]
  · simp [Nat.mod_eq_of_lt (show b < 256 by omega)]
theorem SP.step {n m T D st : Nat} {B E E' : Nat → Nat} (hn : n ≤ 8) (hm : m < n) (hB : B m < 2 ^ n) (ht : T.testBit m = true) (h : SP n B T D st m E) (h1 : ∀ i, i < 2 ^ pcn m T → E' i = E i) (h2 : ∀ i, i < 2 ^ pcn m T → E' (2 ^ pcn m T + i) = E i ^^^ (B m + if D.testBit m then 256 else 0)) : SP n B T D st (m + 1) E' := by
  have h8 := n8 hn
  have ep : 2 ^ pcn (m + 1) T = 2 * 2 ^ pcn m T := by simp only [pcn, ht]; rw [show (true : Bool).toNat = 1 from rfl, Nat.pow_succ]; omega
  refine ⟨fun k hk => ?_, fun y hy => ?_⟩
  · rw [ep] at hk
    by_cases q : k < 2 ^ pcn m T
    · rw [h1 k q]; exact h.1 k q
    · obtain ⟨i, rfl⟩ : ∃ i, k = 2 ^ pcn m T + i := ⟨k - 2 ^ pcn m T, by omega⟩
      rw [h2 i (by omega)]
      exact (h.1 i (by omega)).xor (EN_step hn hB _)
  · have hw : (wrt n B y).testBit m = od (B m &&& y) := by rw [wrt_bit]; simp [hm]
    rw [ep, CS_dbl h1 h2, h.2 y hy, od_step hn hB (by omega), ← hw, fitB, ht]
    have e3 : (2 : Int) ^ pcn (m + 1) T = 2 * 2 ^ pcn m T := by
      simp only [pcn, ht]; rw [show (true : Bool).toNat = 1 from rfl, Int.pow_succ, Int.mul_comm]
    rw [e3]
    generalize (2 : Int) ^ pcn m T = P
    generalize od (st &&& (256 + y)) = g
    cases fitB T D (wrt n B y) m <;> cases (wrt n B y).testBit m <;> cases D.testBit m <;> cases g <;> simp [sgZ] <;> omega
theorem SP.skip {n m T D st : Nat} {B E : Nat → Nat} (ht : T.testBit m = false) (h : SP n B T D st m E) : SP n B T D st (m + 1) E := by
  have ep : pcn (m + 1) T = pcn m T := by simp only [pcn, ht]; rfl
  refine ⟨fun k hk => h.1 k (by rw [ep] at hk; exact hk), fun y hy => ?_⟩
  rw [ep, h.2 y hy, fitB, ht]
  simp
set_option maxHeartbeats 1000000 in
theorem modes_loop {F n T D st : Nat} {back : Nat → Int32} {B : Nat → Nat} {V : Int} {N : Nat → Int} {nb : Nat → Int64} (hF : 300 < F) (hn : n ≤ 8) (hT : T < 2 ^ n) (hD : D < 2 ^ n) (hV1 : -1000000 ≤ V) (hV2 : V ≤ 1000000) (hB : ∀ w, w < n → back w = nI (B w) ∧ B w < 2 ^ n) (hN : NR n nb N) :
    ∀ (f d m : Nat) (sp : Nat → Int32) (E : Nat → Nat), d < f → m + d = n → (∀ k, k < 2 ^ pcn m T → sp k = nI (E k)) → SP n B T D st m E →
      ∃ nb' sp' N', b_Pi_bring_52 F (nI n) back f (nI D) (Int32.ofInt V) (nI T) (nI (2 ^ pcn m T)) (nI m) nb sp = some (nb', sp') ∧ NR n nb' N' ∧ ∀ y, y < 2 ^ n → WH n N' y = WH n N y + 2 ^ n * if fitB T D (wrt n B y) n = true then sgZ (od (st &&& (256 + y))) V else 0 := by
  intro f
  induction f with
  | zero => intro d m sp E h1; omega
  | succ f ih =>
    intro d m sp E h1 h2 h3 hSP
    have h8 := n8 hn
    rw [b_Pi_bring_52, if_le (by omega) (by omega)]
    cases d with
    | zero =>
      have e : m = n := by omega
      subst e
      have hpc := pcn_n m hn T hT
      have hple := pcn_le m T
      rw [if_pos (Nat.le_refl _), bc_all (by omega)]
      simp only [Option.bind_some]
      rw [← hpc, pk_sub hple, nm_def, toI64 (by omega) (by omega), shl64 (by omega)]
      have hsz : 2 ^ pcn m T ≤ 256 := n8 (by omega)
      obtain ⟨nb', N', e, g1, g2⟩ := acc_loop (F := F) (n := m) (size4 := nI m) (back4 := back) (sh := V * 2 ^ (m - pcn m T)) (N0 := N) hn hsz hSP.1 h3 F (2 ^ pcn m T) 0 nb N (by omega) (by omega) hN (fun y _ => by simp [sumZ])
      refine ⟨nb', sp, N', e, g1, fun y hy => ?_⟩
      rw [g2 y hy]
      have e1 : sumZ (2 ^ pcn m T) (fun k => sgZ (od (E k &&& (256 + y))) (V * 2 ^ (m - pcn m T))) = V * 2 ^ (m - pcn m T) * CS (2 ^ pcn m T) E y := by
        rw [CS, ← sumZ_mul]
        exact sumZ_cong (fun i _ => by rw [← sgZ_mul, Int.mul_one])
      rw [e1, hSP.2 y hy]
      by_cases q : fitB T D (wrt m B y) m = true
      · rw [if_pos q, if_pos q]
        have e2 : (2 : Int) ^ m = 2 ^ (m - pcn m T) * 2 ^ pcn m T := by rw [← Int.pow_add, Nat.sub_add_cancel hple]
        have e3 : V * 2 ^ (m - pcn m T) * sgZ (od (st &&& (256 + y))) (2 ^ pcn m T) = 2 ^ m * sgZ (od (st &&& (256 + y))) V := by
          rw [← sgZ_mul, ← sgZ_mul, e2, Int.mul_assoc, Int.mul_comm V]
        rw [e3]
      · rw [if_neg q, if_neg q, Int.mul_zero, Int.mul_zero]
    | succ d =>
      have hm : m < n := by omega
      obtain ⟨b1, b2'⟩ := hB m hm
      rw [if_neg (by omega), has_all (by omega) (by omega)]
      simp only [Option.bind_some]
      cases ht : T.testBit m with
      | false =>
        rw [if_pos (by decide), b_Pi_bring_110, nm_def, nI_1]
        have ep : pcn (m + 1) T = pcn m T := by simp only [pcn, ht]; rfl
        have := ih d (m + 1) sp E (by omega) (by omega) (by rw [ep]; exact h3) (hSP.skip ht)
        rw [ep] at this
        exact this
      | true =>
        have ep : 2 ^ pcn (m + 1) T = 2 * 2 ^ pcn m T := by simp only [pcn, ht]; rw [show (true : Bool).toNat = 1 from rfl, Nat.pow_succ]; omega
        have hsz : 2 ^ pcn m T ≤ 128 := by
          have := pcn_le m T
          exact Nat.pow_le_pow_right (n := 2) (by decide) (show pcn m T ≤ 7 by omega)
        rw [if_neg (by decide), ck_n (by omega) (by decide), nm_def, nI_clamp (by omega), b1, has_all (by omega) (by omega)]
        simp only [Option.bind_some]
        have next : ∃ nb' sp' N', b_Pi_bring_105 F (b_Pi_bring_52 F (nI n) back f) (nI n) back (nI D) (Int32.ofInt V) (nI T) (nI m) (nI (2 ^ pcn m T)) (nI (B m + if D.testBit m then 256 else 0)) nb sp = some (nb', sp') ∧ NR n nb' N' ∧ ∀ y, y < 2 ^ n → WH n N' y = WH n N y + 2 ^ n * if fitB T D (wrt n B y) n = true then sgZ (od (st &&& (256 + y))) V else 0 := by
          obtain ⟨sp', e, g1, g2⟩ := dbl_loop (F := F) (st := B m + if D.testBit m then 256 else 0) hsz F (2 ^ pcn m T) 0 sp (by omega) (by omega) h3 (fun i hi => by omega)
          have e' : f_Pi_doubled F sp (nI (2 ^ pcn m T)) (nI (B m + if D.testBit m then 256 else 0)) = some (nI (2 * 2 ^ pcn m T), sp') := e
          rw [b_Pi_bring_105, e']
          simp only [Option.bind_some]
          rw [b_Pi_bring_110, nm_def, nI_1]
          have hSP' := hSP.step (E' := fun k => if k < 2 ^ pcn m T then E k else E (k - 2 ^ pcn m T) ^^^ (B m + if D.testBit m then 256 else 0)) hn hm b2' ht (fun i hi => if_pos hi) (fun i hi => by
            rw [if_neg (by omega), Nat.add_sub_cancel_left])
          have := ih d (m + 1) sp' _ (by omega) (by omega) (fun k hk => by
            rw [ep] at hk
            by_cases q : k < 2 ^ pcn m T
            · rw [if_pos q]; exact g1 k q
            · rw [if_neg q]
              have := g2 (k - 2 ^ pcn m T) (by omega)
              rw [Nat.add_sub_cancel' (by omega)] at this
              exact this) hSP'
          rw [ep] at this
          exact this
        cases hd : D.testBit m with
        | false =>
          rw [hd] at next
          rw [if_pos (by decide)]
          exact next
        | true =>
          rw [hd] at next
          rw [if_neg (by decide), show (256 : Int32) = nI 256 from rfl, nI_add]
          exact next
theorem bring_all {F n U D : Nat} {back sp : Nat → Int32} {B : Nat → Nat} {V : Int} {N : Nat → Int} {nb : Nat → Int64} (hF : 300 < F) (hn : n ≤ 8) (hU : U < 2 ^ n) (hD : D < 2 ^ n) (hV1 : -1000000 ≤ V) (hV2 : V ≤ 1000000) (hB : ∀ w, w < n → back w = nI (B w) ∧ B w < 2 ^ n) (hN : NR n nb N) :
    ∃ nb' sp' N', f_Pi_bring F nb sp (nI n) back (nI U) (nI D) (Int32.ofInt V) = some (nb', sp') ∧ NR n nb' N' ∧ ∀ y, y < 2 ^ n → WH n N' y = WH n N y + 2 ^ n * if acts U D (wrt n B y) = true then sgZ (sgn U D (wrt n B y)) V else 0 := by
  have h8 := n8 hn
  have hob : ob U ^^^ ob D < 2 ^ n := Nat.xor_lt_two_pow (ob_low n hn U hU) (ob_low n hn D hD)
  obtain ⟨r, e, hr, hod⟩ := signs_all (F := F) (by omega) hn hob hB
  rw [f_Pi_bring, nI_or, nm_def, ob_all (by omega)]
  simp only [Option.bind_some]
  rw [ob_all (by omega)]
  simp only [Option.bind_some]
  rw [nI_xor, e]
  simp only [Option.bind_some]
  rw [turns_all (by omega) (by omega)]
  simp only [Option.bind_some]
  have hT : U ||| D < 2 ^ n := Nat.or_lt_two_pow hU hD
  obtain ⟨t, ht⟩ : ∃ t, t = od (D &&& ob U) := ⟨_, rfl⟩
  have next : ∃ nb' sp' N', b_Pi_bring_45 F (nI n) back (nI D) (Int32.ofInt V) (nI (U ||| D)) 0 (nI (r + if t then 256 else 0)) nb sp = some (nb', sp') ∧ NR n nb' N' ∧ ∀ y, y < 2 ^ n → WH n N' y = WH n N y + 2 ^ n * if acts U D (wrt n B y) = true then sgZ (sgn U D (wrt n B y)) V else 0 := by
    rw [b_Pi_bring_45, show (0 : Int32) = nI 0 from rfl, ck_n (by omega) (by decide), nI_clamp (by omega)]
    obtain ⟨nb', sp', N', e2, g1, g2⟩ := modes_loop (F := F) (st := r + if t then 256 else 0) (nb := nb) (N := N) hF hn hT hD hV1 hV2 hB hN F n 0 (upd sp 0 (nI (r + if t then 256 else 0))) (fun _ => r + if t then 256 else 0) (by omega) (by omega) (fun k hk => by
      have : k = 0 := by
        have hk : k < 1 := hk
        omega
      rw [this, upd_at]) ⟨fun k _ => EN_step hn hr t, fun y _ => by
        show sumZ 1 _ = if fitB (U ||| D) D (wrt n B y) 0 = true then sgZ _ (2 ^ 0) else 0
        rw [fitB, if_pos rfl]
        simp [sumZ]⟩
    refine ⟨nb', sp', N', e2, g1, fun y hy => ?_⟩
    rw [g2 y hy, fit_acts hU hD, od_step hn hr (by omega), hod, ht]
    have es : sgn U D (wrt n B y) = (od (D &&& ob U) ^^ od ((ob U ^^^ ob D) &&& wrt n B y)) := by
      rw [sgn, Nat.and_comm (wrt n B y), Bool.xor_comm]
    rw [es]
  cases hh : od (D &&& ob U) with
  | false =>
    rw [hh] at ht
    subst ht
    rw [if_pos (by decide)]
    exact next
  | true =>
    rw [hh] at ht
    subst ht
    rw [if_neg (by decide), show (256 : Int32) = nI 256 from rfl, nI_add]
    exact next
