/-! clearing the rows of a way down to single modes -/
def AR (n : Nat) (arr : Nat → Int32) (A : Nat → Nat) : Prop := ∀ i, i < n → arr i = nI (A i)
theorem AR.upd {n : Nat} {arr : Nat → Int32} {A : Nat → Nat} (h : AR n arr A) (w x : Nat) : AR n (upd arr w (nI x)) (updF A w x) := fun i hi => by
  by_cases e : i = w
  · subst e; simp [updF, upd_at]
  · rw [upd_ne e]; simp only [updF, if_neg e]; exact h i hi
def GE (n : Nat) (R : Nat → Nat) (m : Nat) (L B : Nat → Nat) : Prop :=
  (∀ i, i < n → L i < 2 ^ n ∧ B i < 2 ^ n) ∧ (∀ i, i < n → ∀ s, s < 2 ^ n → od (L i &&& s) = od (B i &&& wrt n R s)) ∧ (∀ c, c < m → ∀ i, i < n → (L i).testBit c = decide (i = c)) ∧ ∀ y, y < 2 ^ n → (∀ i, i < n → od (B i &&& y) = false) → y = 0
theorem GE.start {n : Nat} {R : Nat → Nat} (hn : n ≤ 8) (hR : ∀ w, w < n → R w < 2 ^ n) : GE n R 0 R (fun w => 2 ^ w) := by
  have h8 := n8 hn
  refine ⟨fun i hi => ⟨hR i hi, Nat.pow_lt_pow_right (by decide) hi⟩, fun i hi s hs => ?_, fun c hc => by omega, fun y hy h => ?_⟩
  · have := wrt_lt R s n
    rw [od_bit i (by omega) _ (by omega), wrt_bit]; simp [hi]
  · apply Nat.eq_of_testBit_eq
    intro i
    rw [Nat.zero_testBit]
    by_cases hi : i < n
    · rw [← od_bit i (by omega) y (by omega)]; exact h i hi
    · exact tb_hi hy (by omega)
theorem GE.done {n : Nat} {R L B : Nat → Nat} (hn : n ≤ 8) (hR : ∀ w, w < n → R w < 2 ^ n) (h : GE n R n L B) : Inv n R B := by
  have h8 := n8 hn
  refine ⟨fun w hw => ⟨hR w hw, (h.1 w hw).2⟩, fun s hs => ?_⟩
  apply Nat.eq_of_testBit_eq
  intro i
  rw [wrt_bit]
  by_cases hi : i < n
  · rw [← h.2.1 i hi s hs]
    have e : L i = 2 ^ i := by
      apply Nat.eq_of_testBit_eq
      intro c
      rw [Nat.testBit_two_pow]
      by_cases hc : c < n
      · exact h.2.2.1 c hc i hi
      · rw [tb_hi (h.1 i hi).1 (by omega)]; simp; omega
    rw [e, od_bit i (by omega) s (by omega)]; simp [hi]
  · rw [tb_hi hs (by omega)]; simp [hi]
/-- if no row from the mode's place on has the mode, two states are written alike -/
theorem GE.stuck {n m : Nat} {R L B : Nat → Nat} (hn : n ≤ 8) (hm : m < n) (h : GE n R m L B) (hno : ∀ i, m ≤ i → i < n → (L i).testBit m = false) : ∃ s, 0 < s ∧ s < 2 ^ n ∧ wrt n R s = 0 := by
  have h8 := n8 hn
  have hmn : 2 ^ m < 2 ^ n := Nat.pow_lt_pow_right (by decide) hm
  have hv := wrt_lt L (2 ^ m) m
  have hs : 2 ^ m ^^^ wrt m L (2 ^ m) < 2 ^ n := Nat.xor_lt_two_pow hmn (by omega)
  refine ⟨2 ^ m ^^^ wrt m L (2 ^ m), ?_, hs, ?_⟩
  · apply Nat.pos_of_ne_zero
    intro e
    have := congrArg (fun x => x.testBit m) e
    simp only [Nat.testBit_xor, Nat.testBit_two_pow_self, Nat.zero_testBit, wrt_bit] at this
    simp at this
  · apply h.2.2.2 _ (wrt_lt _ _ _)
    intro i hi
    rw [← h.2.1 i hi _ hs, od_and_l]
    have hLi := (h.1 i hi).1
    have e1 : od (L i &&& 2 ^ m) = (L i).testBit m := by rw [Nat.and_comm, od_bit m (by omega) _ (by omega)]
    rw [e1]
    by_cases him : i < m
    · have e2 : L i &&& wrt m L (2 ^ m) = 2 ^ i &&& wrt m L (2 ^ m) := by
        apply Nat.eq_of_testBit_eq
        intro c
        rw [Nat.testBit_and, Nat.testBit_and]
        by_cases hc : c < m
        · rw [h.2.2.1 c hc i hi, Nat.testBit_two_pow]
        · rw [tb_hi hv (by omega)]; simp
      rw [e2, od_bit i (by omega) _ (by omega), wrt_bit, e1]
      simp [him]
    · have e2 : L i &&& wrt m L (2 ^ m) = 0 := by
        apply Nat.eq_of_testBit_eq
        intro c
        rw [Nat.testBit_and, Nat.zero_testBit]
        by_cases hc : c < m
        · rw [h.2.2.1 c hc i hi]; simp; omega
        · rw [tb_hi hv (by omega)]; simp
      rw [e2, od_zero, hno i (by omega) hi]; rfl
def swp (A : Nat → Nat) (m w : Nat) : Nat → Nat := updF (updF A m (A w)) w (A m)
theorem swp_m {A : Nat → Nat} {m w : Nat} : swp A m w m = A w := by
  simp only [swp, updF]
  by_cases h : m = w
  · rw [if_pos h, h]
  · rw [if_neg h]; simp
theorem swp_w {A : Nat → Nat} {m w : Nat} : swp A m w w = A m := by simp [swp, updF]
theorem swp_o {A : Nat → Nat} {m w i : Nat} (h1 : i ≠ m) (h2 : i ≠ w) : swp A m w i = A i := by simp [swp, updF, h1, h2]
theorem GE.swap {n m w : Nat} {R L B : Nat → Nat} (hm : m < n) (hw : w < n) (hmw : m ≤ w) (h : GE n R m L B) : GE n R m (swp L m w) (swp B m w) := by
  have key : ∀ i, i < n → ∃ j, j < n ∧ swp L m w i = L j ∧ swp B m w i = B j ∧ (i < m → j = i) ∧ (m ≤ i → m ≤ j) := fun i hi => by
    by_cases h1 : i = m
    · subst h1; exact ⟨w, hw, swp_m, swp_m, fun q => by omega, fun _ => hmw⟩
    · by_cases h2 : i = w
      · subst h2; exact ⟨m, hm, swp_w, swp_w, fun q => by omega, fun _ => Nat.le_refl _⟩
      · exact ⟨i, hi, swp_o h1 h2, swp_o h1 h2, fun _ => rfl, fun q => q⟩
  refine ⟨fun i hi => ?_, fun i hi s hs => ?_, fun c hc i hi => ?_, fun y hy hb => ?_⟩
  · obtain ⟨j, hj, e1, e2, _, _⟩ := key i hi
    rw [e1, e2]; exact h.1 j hj
  · obtain ⟨j, hj, e1, e2, _, _⟩ := key i hi
    rw [e1, e2]; exact h.2.1 j hj s hs
  · obtain ⟨j, hj, e1, e2, q1, q2⟩ := key i hi
    rw [e1, h.2.2.1 c hc j hj]
    by_cases q : i < m
    · rw [q1 q]
    · have := q2 (by omega)
      rw [decide_eq_decide]; omega
  · refine h.2.2.2 y hy (fun i hi => ?_)
    by_cases h1 : i = m
    · subst h1; have := hb w hw; rwa [swp_w] at this
    · by_cases h2 : i = w
      · subst h2; have := hb m hm; rwa [swp_m] at this
      · have := hb i hi; rwa [swp_o h1 h2] at this
theorem GE.add {n m w : Nat} {R L B : Nat → Nat} (hm : m < n) (hw : w < n) (hmw : w ≠ m) (h : GE n R m L B) : GE n R m (updF L w (L w ^^^ L m)) (updF B w (B w ^^^ B m)) := by
  have hx : ∀ A : Nat → Nat, (updF A w (A w ^^^ A m)) w = A w ^^^ A m := fun A => by simp [updF]
  have ho : ∀ (A : Nat → Nat) i, i ≠ w → (updF A w (A w ^^^ A m)) i = A i := fun A i q => by simp [updF, q]
  refine ⟨fun i hi => ?_, fun i hi s hs => ?_, fun c hc i hi => ?_, fun y hy hb => ?_⟩
  · by_cases e : i = w
    · subst e; rw [hx, hx]
      exact ⟨Nat.xor_lt_two_pow (h.1 i hi).1 (h.1 m hm).1, Nat.xor_lt_two_pow (h.1 i hi).2 (h.1 m hm).2⟩
    · rw [ho _ _ e, ho _ _ e]; exact h.1 i hi
  · by_cases e : i = w
    · subst e; rw [hx, hx, od_and_r, od_and_r, h.2.1 i hi s hs, h.2.1 m hm s hs]
    · rw [ho _ _ e, ho _ _ e]; exact h.2.1 i hi s hs
  · by_cases e : i = w
    · subst e; rw [hx, Nat.testBit_xor, h.2.2.1 c hc i hi, h.2.2.1 c hc m hm]
      simp [show m ≠ c by omega]
    · rw [ho _ _ e]; exact h.2.2.1 c hc i hi
  · have e0 := hb m hm
    rw [ho _ _ (fun q => hmw q.symm)] at e0
    refine h.2.2.2 y hy (fun i hi => ?_)
    by_cases e : i = w
    · subst e
      have := hb i hi
      rw [hx, od_and_r, e0] at this
      simpa using this
    · have := hb i hi; rwa [ho _ _ e] at this
theorem bring_loop {F n m : Nat} {L B : Nat → Nat} {sb l : Nat → Int32} (hn : n ≤ 8) (hm : m < n) (hL : AR n l L) (hB : AR n sb B) (hlt : ∀ i, i < n → L i < 2 ^ n) :
    ∀ (f d w : Nat), d < f → w + d = n → m ≤ w → (∀ i, m ≤ i → i < w → (L i).testBit m = false) →
      (b_Wi_bringUp_2 F (nI n) f (nI m) (nI w) sb l = some (0, sb, l) ∧ ∀ i, m ≤ i → i < n → (L i).testBit m = false) ∨
      ∃ v sb' l', m ≤ v ∧ v < n ∧ (L v).testBit m = true ∧ b_Wi_bringUp_2 F (nI n) f (nI m) (nI w) sb l = some (1, sb', l') ∧ AR n sb' (swp B m v) ∧ AR n l' (swp L m v) := by
  intro f
  induction f with
  | zero => intro d w h1; omega
  | succ f ih =>
    intro d w h1 h2 h3 h4
    have h8 := n8 hn
    rw [b_Wi_bringUp_2, if_le (by omega) (by omega)]
    cases d with
    | zero => rw [if_pos (by omega)]; exact Or.inl ⟨rfl, fun i q1 q2 => h4 i q1 (by omega)⟩
    | succ d =>
      have hwl := hlt w (by omega)
      rw [if_neg (by omega), ck_n (by omega) (by decide), nI_clamp (by omega), hL w (by omega), has_all (by omega) (by omega)]
      simp only [Option.bind_some]
      by_cases h : (L w).testBit m = true
      · rw [if_neg (b2_ne.mpr h)]
        simp only [nm_def]
        rw [ck_n (by omega) (by decide), ck_n (by omega) (by decide), ck_n (by omega) (by decide), ck_n (by omega) (by decide), ck_n (by omega) (by decide), ck_n (by omega) (by decide), ck_n (by omega) (by decide), ck_n (by omega) (by decide), nI_clamp (by omega), hL m hm, hB m hm, hB w (by omega)]
        exact Or.inr ⟨w, _, _, h3, by omega, h, rfl, (hB.upd m (B w)).upd w (B m), (hL.upd m (L w)).upd w (L m)⟩
      · have h' : (L w).testBit m = false := by cases q : (L w).testBit m; rfl; exact absurd q h
        rw [if_pos (b2_0.mpr h'), nm_def, nI_1]
        exact ih d (w + 1) (by omega) (by omega) (by omega) (fun i q1 q2 => by
          by_cases e : i = w
          · rw [e]; exact h'
          · exact h4 i q1 (by omega))
theorem elim_loop {F n m : Nat} {R : Nat → Nat} {told : Nat → Int32} {k39 : Int32 → (Nat → Int32) → (Nat → Int32) → Option (Int32 × (Nat → Int32) × (Nat → Int32))} (hn : n ≤ 8) (hm : m < n) :
    ∀ (f d w : Nat) (L B : Nat → Nat) (sb l : Nat → Int32), d < f → w + d = n → AR n l L → AR n sb B → GE n R m L B → (L m).testBit m = true → (∀ i, i < w → i ≠ m → (L i).testBit m = false) →
      ∃ L' B' sb' l', b_Wi_turnRound_59 F k39 (nI n) told f (nI m) (nI w) sb l = k39 (nI (m + 1)) sb' l' ∧ AR n l' L' ∧ AR n sb' B' ∧ GE n R (m + 1) L' B' := by
  intro f
  induction f with
  | zero => intro d w L B sb l h1; omega
  | succ f ih =>
    intro d w L B sb l h1 h2 hL hB hG hmm hcl
    have h8 := n8 hn
    rw [b_Wi_turnRound_59, if_le (by omega) (by omega)]
    cases d with
    | zero =>
      rw [if_pos (by omega), nm_def, nI_1]
      refine ⟨L, B, sb, l, rfl, hL, hB, hG.1, hG.2.1, fun c hc i hi => ?_, hG.2.2.2⟩
      by_cases e : c = m
      · subst e
        by_cases e2 : i = c
        · subst e2; rw [hmm]; simp
        · rw [hcl i (by omega) e2]; simp [e2]
      · exact hG.2.2.1 c (by omega) i hi
    | succ d =>
      have hwl := (hG.1 w (by omega)).1
      rw [if_neg (by omega), if_eqn (by omega) (by omega)]
      by_cases hwm : w = m
      · rw [if_pos hwm, b_Wi_turnRound_115, nm_def, nI_1]
        exact ih d (w + 1) L B sb l (by omega) (by omega) hL hB hG hmm (fun i q1 q2 => hcl i (by omega) q2)
      · rw [if_neg hwm, ck_n (by omega) (by decide), nI_clamp (by omega), hL w (by omega), has_all (by omega) (by omega)]
        simp only [Option.bind_some]
        by_cases h : (L w).testBit m = true
        · rw [if_neg (b2_ne.mpr h)]
          simp only [nm_def]
          rw [ck_n (by omega) (by decide), ck_n (by omega) (by decide), ck_n (by omega) (by decide), ck_n (by omega) (by decide), ck_n (by omega) (by decide), ck_n (by omega) (by decide), nI_clamp (by omega), hL m hm, hB m hm, hB w (by omega), nI_xor, nI_xor, b_Wi_turnRound_115, nm_def, nI_1]
          refine ih d (w + 1) _ _ _ _ (by omega) (by omega) (hL.upd w (L w ^^^ L m)) (hB.upd w (B w ^^^ B m)) (hG.add hm (by omega) hwm) ?_ (fun i q1 q2 => ?_)
          · simp only [updF, if_neg (show m ≠ w from fun q => hwm q.symm)]; exact hmm
          · by_cases e : i = w
            · subst e; simp [updF, Nat.testBit_xor, h, hmm]
            · simp only [updF, if_neg e]; exact hcl i (by omega) q2
        · have h' : (L w).testBit m = false := by cases q : (L w).testBit m; rfl; exact absurd q h
          rw [if_pos (b2_0.mpr h'), b_Wi_turnRound_115, nm_def, nI_1]
          exact ih d (w + 1) L B sb l (by omega) (by omega) hL hB hG hmm (fun i q1 q2 => by
            by_cases e : i = w
            · rw [e]; exact h'
            · exact hcl i (by omega) q2)
theorem gauss_loop {F n : Nat} {R : Nat → Nat} {told : Nat → Int32} (hF : 20 < F) (hn : n ≤ 8) (hR : ∀ w, w < n → R w < 2 ^ n) :
    ∀ (f d m : Nat) (L B : Nat → Nat) (sb l : Nat → Int32), d < f → m + d = n → AR n l L → AR n sb B → GE n R m L B →
      (∃ sb' l' B', b_Wi_turnRound_39 F (nI n) told f (nI m) sb l = some (1, sb', l') ∧ AR n sb' B' ∧ Inv n R B') ∨
      ((∃ sb' l', b_Wi_turnRound_39 F (nI n) told f (nI m) sb l = some (0, sb', l')) ∧ ∃ s, 0 < s ∧ s < 2 ^ n ∧ wrt n R s = 0) := by
  intro f
  induction f with
  | zero => intro d m L B sb l h1; omega
  | succ f ih =>
    intro d m L B sb l h1 h2 hL hB hG
    rw [b_Wi_turnRound_39, if_le (by omega) (by omega)]
    cases d with
    | zero =>
      rw [if_pos (by omega)]
      rw [show m = n by omega] at hG
      exact Or.inl ⟨sb, l, B, rfl, hB, hG.done hn hR⟩
    | succ d =>
      rw [if_neg (by omega), f_Wi_bringUp]
      rcases bring_loop (F := F) hn (show m < n by omega) hL hB (fun i hi => (hG.1 i hi).1) F (d + 1) m (by omega) (by omega) (Nat.le_refl _) (fun i q1 q2 => by omega) with ⟨e, hno⟩ | ⟨v, sb1, l1, hv1, hv2, hv3, e, hB1, hL1⟩
      · rw [e]
        exact Or.inr ⟨⟨_, _, rfl⟩, hG.stuck hn (by omega) hno⟩
      · rw [e]
        simp only [Option.bind_some]
        rw [if_neg (by decide)]
        have hG1 := hG.swap (show m < n by omega) hv2 hv1
        obtain ⟨L', B', sb', l', e2, hL', hB', hG'⟩ := elim_loop (F := F) (told := told) (k39 := b_Wi_turnRound_39 F (nI n) told f) hn (show m < n by omega) F n 0 _ _ sb1 l1 (by omega) (by omega) hL1 hB1 hG1 (by rw [swp_m]; exact hv3) (fun i q => by omega)
        have e2' : b_Wi_turnRound_59 F (b_Wi_turnRound_39 F (nI n) told f) (nI n) told F (nI m) 0 sb1 l1 = b_Wi_turnRound_39 F (nI n) told f (nI (m + 1)) sb' l' := e2
        rw [e2']
        exact ih d (m + 1) L' B' sb' l' (by omega) (by omega) hL' hB' hG'
theorem fill_loop {F n kd : Nat} {T : Nat → Nat} {told : Nat → Int32} (hn : n ≤ 8) (hk : kd ≤ 3) (hT : ∀ w, w < n → told w = nI (T w)) :
    ∀ (f d w : Nat) (sb l : Nat → Int32), d < f → w + d = n → AR w l (rowN T kd) → AR w sb (fun w => 2 ^ w) →
      ∃ sb' l', b_Wi_turnRound_2 F (nI n) told f (nI kd) (nI w) sb l = b_Wi_turnRound_39 F (nI n) told F 0 sb' l' ∧ AR n l' (rowN T kd) ∧ AR n sb' (fun w => 2 ^ w) := by
  intro f
  induction f with
  | zero => intro d w sb l h1; omega
  | succ f ih =>
    intro d w sb l h1 h2 hL hB
    rw [b_Wi_turnRound_2, if_le (by omega) (by omega)]
    cases d with
    | zero =>
      rw [if_pos (by omega)]
      rw [show w = n by omega] at hL hB
      exact ⟨sb, l, rfl, hL, hB⟩
    | succ d =>
      rw [if_neg (by omega), (rowOf_all (F := F) hk (show w < 8 by omega) (hT w (by omega))).1]
      simp only [Option.bind_some]
      rw [ck_n (by omega) (by decide), nm_def, ck_n (by omega) (by decide), nm_def, nI_clamp (by omega), nI_1, sh1 w (by omega)]
      refine ih d (w + 1) _ _ (by omega) (by omega) (fun i hi => ?_) (fun i hi => ?_)
      · by_cases e : i = w
        · subst e; rw [upd_at]
        · rw [upd_ne e]; exact hL i (by omega)
      · by_cases e : i = w
        · subst e; rw [upd_at]
        · rw [upd_ne e]; exact hB i (by omega)
theorem turn_all {F n kd : Nat} {T : Nat → Nat} {told sb l : Nat → Int32} (hF : 20 < F) (hn : n ≤ 8) (hk : kd ≤ 3) (hT : ∀ w, w < n → told w = nI (T w) ∧ T w < 2 ^ n) :
    (∃ sb' l' B', f_Wi_turnRound F (nI n) told sb l (nI kd) = some (1, sb', l') ∧ AR n sb' B' ∧ Inv n (rowN T kd) B') ∨
      ((∃ sb' l', f_Wi_turnRound F (nI n) told sb l (nI kd) = some (0, sb', l')) ∧ ∃ s, 0 < s ∧ s < 2 ^ n ∧ wrt n (rowN T kd) s = 0) := by
  have hR : ∀ w, w < n → rowN T kd w < 2 ^ n := fun w hw => rowN_lt hn hk hw (hT w hw).2
  obtain ⟨sb1, l1, e, hL, hB⟩ := fill_loop (F := F) hn hk (fun w hw => (hT w hw).1) F n 0 sb l (by omega) (by omega) (fun i hi => by omega) (fun i hi => by omega)
  have e' : f_Wi_turnRound F (nI n) told sb l (nI kd) = b_Wi_turnRound_39 F (nI n) told F (nI 0) sb1 l1 := e
  rw [e']
  exact gauss_loop hF hn hR F n 0 _ _ sb1 l1 (by omega) (by omega) hL hB (GE.start hn hR)
theorem choose_loop {F n kd : Nat} {T : Nat → Nat} {told : Nat → Int32} {kind : Int32} {back sb l : Nat → Int32} (hn : n ≤ 8) (hk : kd ≤ 3) (hT : ∀ w, w < n → told w = nI (T w)) :
    ∀ (f d w : Nat) (rows : Nat → Int32), d < f → w + d = n → AR w rows (rowN T kd) →
      ∃ rows', b_Wi_choose_35 F (nI n) told f (nI kd) (nI w) kind rows back sb l = some (1, kind, rows', back, sb, l) ∧ AR n rows' (rowN T kd) := by
  intro f
  induction f with
  | zero => intro d w rows h1; omega
  | succ f ih =>
    intro d w rows h1 h2 hL
    rw [b_Wi_choose_35, if_le (by omega) (by omega)]
    cases d with
    | zero =>
      rw [if_pos (by omega)]
      rw [show w = n by omega] at hL
      exact ⟨rows, rfl, hL⟩
    | succ d =>
      rw [if_neg (by omega), (rowOf_all (F := F) hk (show w < 8 by omega) (hT w (by omega))).1]
      simp only [Option.bind_some]
      rw [ck_n (by omega) (by decide), nm_def, nI_clamp (by omega), nI_1]
      refine ih d (w + 1) _ (by omega) (by omega) (fun i hi => ?_)
      by_cases e : i = w
      · subst e; rw [upd_at]
      · rw [upd_ne e]; exact hL i (by omega)
