/-! both ways' states alike, and what way, row, written, read, begin do to them -/
def WR (n kd : Nat) (T R B : Nat → Nat) (size kind : Int32) (told rows back : Nat → Int32) (modes wk : Int32) (rowOf writes reads : Nat → Int32) : Prop :=
  (1 ≤ n ∧ n ≤ 8 ∧ kd ≤ 3) ∧ (size = nI n ∧ kind = nI kd ∧ modes = nI n ∧ wk = nI kd) ∧ (∀ w, w < 8 → told w = nI (T w) ∧ rowOf w = nI (T w)) ∧ (∀ w, w < n → T w < 2 ^ n) ∧ AR n rows R ∧ AR n back B ∧ Inv n R B ∧ (∀ s, s < 2 ^ n → writes s = nI (wrt n R s)) ∧ ∀ s, s < 2 ^ n → reads s = nI (wrt n B s)
theorem states_all {F n : Nat} (hn : n ≤ 8) : f_Mo_states F (nI n) = some (nI (2 ^ n)) := by rw [f_Mo_states, sh1 n (by omega)]
theorem writeAll_loop {F n kd : Nat} {T B : Nat → Nat} {rowOf : Nat → Int32} {ik : Int32} (hF : 20 < F) (hn : n ≤ 8) (hk : kd ≤ 3) (hT : ∀ w, w < n → rowOf w = nI (T w) ∧ T w < 2 ^ n) (hI : Inv n (rowN T kd) B) :
    ∀ (f d s : Nat) (wr re : Nat → Int32), d < f → s + d = 2 ^ n → (∀ t, t < s → wr t = nI (wrt n (rowN T kd) t) ∧ re (wrt n (rowN T kd) t) = nI t) →
      ∃ wr' re', b_Mo_writeAll_2 F (nI n) (nI kd) rowOf f (nI s) ik wr re = some (0, wr', re') ∧ (∀ t, t < 2 ^ n → wr' t = nI (wrt n (rowN T kd) t) ∧ re' (wrt n (rowN T kd) t) = nI t) := by
  intro f
  induction f with
  | zero => intro d s wr re h1; omega
  | succ f ih =>
    intro d s wr re h1 h2 h
    have h8 := n8 hn
    rw [b_Mo_writeAll_2, states_all hn]
    simp only [Option.bind_some]
    rw [if_le (by omega) (by omega)]
    cases d with
    | zero => rw [if_pos (by omega)]; exact ⟨wr, re, rfl, fun t ht => h t (by omega)⟩
    | succ d =>
      have hw := wrt_lt (rowN T kd) s n
      rw [if_neg (by omega), write_all hF hn hk (by omega) hT]
      simp only [Option.bind_some]
      rw [ck_n (by omega) (by decide), ck_n (by omega) (by decide), nI_clamp (by omega), upd_at, ck_n (by omega) (by decide), nm_def, nI_clamp (by omega), nI_1]
      refine ih d (s + 1) _ _ (by omega) (by omega) (fun t ht => ?_)
      by_cases e : t = s
      · subst e; rw [upd_at, upd_at]; exact ⟨rfl, rfl⟩
      · have hne : wrt n (rowN T kd) t ≠ wrt n (rowN T kd) s := fun q => e (hI.inj (by omega) (by omega) q)
        rw [upd_ne e, upd_ne hne]; exact h t (by omega)
theorem writeAll_all {F n kd : Nat} {T B : Nat → Nat} {rowOf wr re : Nat → Int32} {ik : Int32} (hF : 600 < F) (hn : n ≤ 8) (hk : kd ≤ 3) (hT : ∀ w, w < n → rowOf w = nI (T w) ∧ T w < 2 ^ n) (hI : Inv n (rowN T kd) B) :
    ∃ wr' re', f_Mo_writeAll F (nI n) (nI kd) ik rowOf wr re = some (0, wr', re') ∧ (∀ s, s < 2 ^ n → wr' s = nI (wrt n (rowN T kd) s)) ∧ ∀ s, s < 2 ^ n → re' s = nI (wrt n B s) := by
  have h8 := n8 hn
  obtain ⟨wr', re', e, h⟩ := writeAll_loop (F := F) (ik := ik) (by omega) hn hk hT hI F (2 ^ n) 0 wr re (by omega) (by omega) (fun t ht => by omega)
  refine ⟨wr', re', e, fun s hs => (h s hs).1, fun s hs => ?_⟩
  have := (h (wrt n B s) (wrt_lt _ _ _)).2
  rwa [hI.symm hs] at this
theorem way_loop {F n kd : Nat} {T : Nat → Nat} {rowOf wr re : Nat → Int32} {wk ik thr : Int32} (hF : 600 < F) (hn : n ≤ 8) (hk : kd ≤ 3) (hT : ∀ w, w < n → rowOf w = nI (T w) ∧ T w < 2 ^ n) :
    ∀ (f d s : Nat), d < f → s + d = 2 ^ n → (∃ t, s ≤ t ∧ t < 2 ^ n ∧ wrt n (rowN T kd) t = 0) → b_Mo_way_18 F (nI n) rowOf f (nI kd) (nI s) thr wk ik wr re = some (0, thr, wk, ik, wr, re) := by
  intro f
  induction f with
  | zero => intro d s h1; omega
  | succ f ih =>
    intro d s h1 h2 ⟨t, h3, h4, h5⟩
    have h8 := n8 hn
    have hw := wrt_lt (rowN T kd) s n
    rw [b_Mo_way_18, states_all hn]
    simp only [Option.bind_some]
    rw [if_le (by omega) (by omega), if_neg (by omega), write_all (by omega) hn hk (by omega) hT]
    simp only [Option.bind_some]
    rw [show (0 : Int32) = nI 0 from rfl, if_eqn (by omega) (by omega)]
    by_cases e : wrt n (rowN T kd) s = 0
    · rw [if_pos e]
    · rw [if_neg e, nm_def, nI_1]
      exact ih (d - 1) (s + 1) (by omega) (by omega) ⟨t, by
        rcases Nat.eq_or_lt_of_le h3 with q | q
        · subst q; exact absurd h5 e
        · exact q, h4, h5⟩
theorem way_loop2 {F n kd : Nat} {T : Nat → Nat} {rowOf wr re : Nat → Int32} {wk ik thr : Int32} (hF : 600 < F) (hn : n ≤ 8) (hk : kd ≤ 3) (hT : ∀ w, w < n → rowOf w = nI (T w) ∧ T w < 2 ^ n) :
    ∀ (f d s : Nat), d < f → s + d = 2 ^ n → (∀ t, s ≤ t → t < 2 ^ n → wrt n (rowN T kd) t ≠ 0) → b_Mo_way_18 F (nI n) rowOf f (nI kd) (nI s) thr wk ik wr re = (f_Mo_writeAll F (nI n) (nI kd) ik rowOf wr re).bind fun u_5 => some (1, thr, nI kd, u_5.1, u_5.2.1, u_5.2.2) := by
  intro f
  induction f with
  | zero => intro d s h1; omega
  | succ f ih =>
    intro d s h1 h2 h3
    have h8 := n8 hn
    have hw := wrt_lt (rowN T kd) s n
    rw [b_Mo_way_18, states_all hn]
    simp only [Option.bind_some]
    rw [if_le (by omega) (by omega)]
    cases d with
    | zero => rw [if_pos (by omega)]
    | succ d =>
      rw [if_neg (by omega), write_all (by omega) hn hk (by omega) hT]
      simp only [Option.bind_some]
      rw [show (0 : Int32) = nI 0 from rfl, if_eqn (by omega) (by omega), if_neg (h3 s (Nat.le_refl _) (by omega)), nm_def, nI_1]
      exact ih d (s + 1) (by omega) (by omega) (fun t q1 q2 => h3 t (by omega) q2)
theorem le3 {p : Int32} (h1 : ¬ p < 0) (h2 : p ≤ 3) : ∃ k, k ≤ 3 ∧ p = nI k := by
  obtain ⟨k, hk, rfl⟩ := nI_of h1
  exact ⟨k, (nI_leI hk (by decide)).mp h2, rfl⟩
theorem way_op {F n kd : Nat} {T R B : Nat → Nat} {size kind : Int32} {told rows back : Nat → Int32} {modes wk : Int32} {rowOf writes reads sb l : Nat → Int32} {drawn ik thrown : Int32} (hF : 600 < F) (h : WR n kd T R B size kind told rows back modes wk rowOf writes reads) (p1 : Int32) :
    ∃ (r kind' : Int32) (rows' back' sb' l' : Nat → Int32) (dr' wk' ik' : Int32) (wr' re' : Nat → Int32) (kd' : Nat) (R' B' : Nat → Nat),
      f_FM_way F size kind told rows back sb l drawn p1 = some (r, kind', rows', back', sb', l', dr') ∧ f_Mo_way F thrown modes wk ik rowOf writes reads p1 = some (r, 0, wk', ik', wr', re') ∧
      WR n kd' T R' B' size kind' told rows' back' modes wk' rowOf wr' re' ∧ ((dr' = 0 ∧ ik' = 0) ∨ (dr' = drawn ∧ ik' = ik ∧ R' = R ∧ B' = B)) := by
  have hw0 := h
  obtain ⟨⟨hn1, hn, hkd⟩, ⟨rfl, rfl, rfl, rfl⟩, hT, hT2, hr, hb, hI, hwr, hre⟩ := h
  rw [f_FM_way, f_Mo_way]
  by_cases h1 : p1 < 0
  · rw [if_pos h1, if_pos h1]
    exact ⟨_, _, _, _, _, _, _, _, _, _, _, kd, R, B, rfl, rfl, hw0, Or.inr ⟨rfl, rfl, rfl, rfl⟩⟩
  · rw [if_neg h1, if_neg h1]
    by_cases h2 : p1 ≤ 3
    · rw [if_neg (Int32.not_lt.mpr h2), if_pos h2]
      obtain ⟨k, hk, rfl⟩ := le3 h1 h2
      have h8 := n8 hn
      have hTc : ∀ w, w < n → told w = nI (T w) ∧ T w < 2 ^ n := fun w hw => ⟨(hT w (by omega)).1, hT2 w hw⟩
      have hTm : ∀ w, w < n → rowOf w = nI (T w) ∧ T w < 2 ^ n := fun w hw => ⟨(hT w (by omega)).2, hT2 w hw⟩
      rw [f_Wi_choose]
      have hp1 : 1 < 2 ^ n := Nat.one_lt_two_pow (by omega)
      rcases turn_all (F := F) (sb := sb) (l := l) (by omega) hn hk hTc with ⟨sb', l', B', e, hB', hI'⟩ | ⟨⟨sb', l', e⟩, s, hs1, hs2, hs3⟩
      · rw [e]
        simp only [Option.bind_some]
        rw [if_neg (by decide)]
        obtain ⟨rows', e2, hr'⟩ := choose_loop (F := F) (kind := nI k) (back := sb') (sb := back) (l := l') hn hk (fun w hw => (hTc w hw).1) F n 0 rows (by omega) (by omega) (fun i hi => by omega)
        have e2' : b_Wi_choose_35 F (nI n) told F (nI k) 0 (nI k) rows sb' back l' = some (1, nI k, rows', sb', back, l') := e2
        rw [e2']
        simp only [Option.bind_some]
        rw [if_neg (by decide)]
        have e3 := way_loop2 (F := F) (wr := writes) (re := reads) (wk := nI kd) (ik := ik) (thr := 0) hF hn hk hTm F (2 ^ n - 1) 1 (by omega) (by omega) (fun t q1 q2 q3 => by
          have := hI'.inj (s := t) (t := 0) q2 (by omega) (by rw [q3, wrt_zero])
          omega)
        have e3' : b_Mo_way_18 F (nI n) rowOf F (nI k) 1 0 (nI kd) ik writes reads = (f_Mo_writeAll F (nI n) (nI k) ik rowOf writes reads).bind fun u_5 => some (1, 0, nI k, u_5.1, u_5.2.1, u_5.2.2) := e3
        obtain ⟨wr', re', e4, hwr', hre'⟩ := writeAll_all (F := F) (wr := writes) (re := reads) (ik := ik) hF hn hk hTm hI'
        rw [e3', e4]
        exact ⟨_, _, _, _, _, _, _, _, _, _, _, k, rowN T k, B', rfl, rfl, ⟨⟨hn1, hn, hk⟩, ⟨rfl, rfl, rfl, rfl⟩, hT, hT2, hr', hB', hI', hwr', hre'⟩, Or.inl ⟨rfl, rfl⟩⟩
      · rw [e]
        simp only [Option.bind_some]
        rw [if_pos trivial]
        have e3 := way_loop (F := F) (wr := writes) (re := reads) (wk := nI kd) (ik := ik) (thr := 0) hF hn hk hTm F (2 ^ n - 1) 1 (by omega) (by omega) ⟨s, hs1, hs2, hs3⟩
        have e3' : b_Mo_way_18 F (nI n) rowOf F (nI k) 1 0 (nI kd) ik writes reads = some (0, 0, nI kd, ik, writes, reads) := e3
        rw [e3']
        exact ⟨_, _, _, _, _, _, _, _, _, _, _, kd, R, B, rfl, rfl, hw0, Or.inr ⟨rfl, rfl, rfl, rfl⟩⟩
    · rw [if_pos (Int32.not_le.mp h2), if_neg h2]
      exact ⟨_, _, _, _, _, _, _, _, _, _, _, kd, R, B, rfl, rfl, hw0, Or.inr ⟨rfl, rfl, rfl, rfl⟩⟩
theorem row_op {F n kd : Nat} {T R B : Nat → Nat} {size kind : Int32} {told rows back : Nat → Int32} {modes wk : Int32} {rowOf writes reads : Nat → Int32} {thrown : Int32} (h : WR n kd T R B size kind told rows back modes wk rowOf writes reads) (p1 p2 : Int32) :
    ∃ (r : Int32) (told' rowOf' : Nat → Int32) (T' : Nat → Nat), f_FM_row F size kind told p1 p2 = some (r, told') ∧ f_Mo_row F thrown modes wk rowOf p1 p2 = some (r, 0, rowOf') ∧ WR n kd T' R B size kind told' rows back modes wk rowOf' writes reads := by
  have hw0 := h
  obtain ⟨⟨hn1, hn, hkd⟩, ⟨rfl, rfl, rfl, rfl⟩, hT, hT2, hr, hb, hI, hwr, hre⟩ := h
  rw [f_FM_row, f_Mo_row]
  by_cases h1 : p1 < 0
  · rw [if_pos h1, if_pos h1]; exact ⟨_, _, _, T, rfl, rfl, hw0⟩
  · rw [if_neg h1, if_neg h1]
    obtain ⟨w, hw, rfl⟩ := nI_of h1
    rw [if_le (by omega) hw, if_le (by omega) hw]
    by_cases h2 : n ≤ w
    · rw [if_pos h2, if_pos h2]; exact ⟨_, _, _, T, rfl, rfl, hw0⟩
    · rw [if_neg h2, if_neg h2, isSet_all (by omega), isState_all (by omega)]
      simp only [Option.bind_some]
      by_cases h3 : ∃ k, k < 2 ^ n ∧ p2 = nI k
      · rw [if_neg (fun q => b2_dec.mp q h3), if_neg (fun q => b2_dec.mp q h3)]
        by_cases h4 : nI kd = 3
        · rw [if_pos h4, if_pos h4]; exact ⟨_, _, _, T, rfl, rfl, hw0⟩
        · rw [if_neg h4, if_neg h4, ck_n (by omega) (by decide), ck_n (by omega) (by decide), nI_clamp (by omega)]
          obtain ⟨k, hk, rfl⟩ := h3
          refine ⟨_, _, _, updF T w k, rfl, rfl, ⟨hn1, hn, hkd⟩, ⟨rfl, rfl, rfl, rfl⟩, fun i hi => ?_, fun i hi => ?_, hr, hb, hI, hwr, hre⟩
          · by_cases e : i = w
            · subst e; simp [updF, upd_at]
            · rw [upd_ne e, upd_ne e]; simp only [updF, if_neg e]; exact hT i hi
          · by_cases e : i = w
            · subst e; simp [updF]; exact hk
            · simp only [updF, if_neg e]; exact hT2 i hi
      · rw [if_pos (b2_dec.mpr h3), if_pos (b2_dec.mpr h3)]; exact ⟨_, _, _, T, rfl, rfl, hw0⟩
theorem Inv.small {n : Nat} {R B : Nat → Nat} (hI : Inv n R B) (hn : n ≤ 8) {w : Nat} (hw : w < n) : R w < 256 ∧ B w < 256 := by
  have h8 := n8 hn
  have := hI.1 w hw
  omega
theorem written_op {F n kd : Nat} {T R B : Nat → Nat} {size kind : Int32} {told rows back : Nat → Int32} {modes wk : Int32} {rowOf writes reads : Nat → Int32} {thrown : Int32} (hF : 600 < F) (h : WR n kd T R B size kind told rows back modes wk rowOf writes reads) (p1 : Int32) :
    (∃ r, f_FM_written F size rows p1 = some r ∧ f_Mo_written F thrown modes writes p1 = some (r, 0)) ∧ ∃ r, f_FM_read F size back p1 = some r ∧ f_Mo_read F thrown modes reads p1 = some (r, 0) := by
  obtain ⟨⟨hn1, hn, hkd⟩, ⟨rfl, rfl, rfl, rfl⟩, hT, hT2, hr, hb, hI, hwr, hre⟩ := h
  have h8 := n8 hn
  rw [f_FM_written, f_Mo_written, f_FM_read, f_Mo_read, isSet_all (by omega), isState_all (by omega)]
  simp only [Option.bind_some]
  by_cases h3 : ∃ k, k < 2 ^ n ∧ p1 = nI k
  · rw [if_neg (fun q => b2_dec.mp q h3), if_neg (fun q => b2_dec.mp q h3), if_neg (fun q => b2_dec.mp q h3), if_neg (fun q => b2_dec.mp q h3)]
    obtain ⟨k, hk, rfl⟩ := h3
    rw [bits_all (R := R) (by omega) hn (by omega) (fun w hw => ⟨hr w hw, (hI.small hn hw).1⟩), bits_all (R := B) (by omega) hn (by omega) (fun w hw => ⟨hb w hw, (hI.small hn hw).2⟩), ck_n (by omega) (by decide), ck_n (by omega) (by decide), nI_clamp (by omega), hwr k hk, hre k hk]
    exact ⟨⟨_, rfl, rfl⟩, ⟨_, rfl, rfl⟩⟩
  · rw [if_pos (b2_dec.mpr h3), if_pos (b2_dec.mpr h3), if_pos (b2_dec.mpr h3), if_pos (b2_dec.mpr h3)]
    exact ⟨⟨_, rfl, rfl⟩, ⟨_, rfl, rfl⟩⟩
theorem reset_loop {F : Nat} {size kind : Int32} : ∀ (f d w : Nat) (told rows back : Nat → Int32), d < f → w + d = 8 → AR w told (fun w => 2 ^ w) → AR w rows (fun w => 2 ^ w) → AR w back (fun w => 2 ^ w) →
    ∃ t r b, b_Wi_reset_12 F f (nI w) size kind told rows back = some (size, kind, t, r, b) ∧ AR 8 t (fun w => 2 ^ w) ∧ AR 8 r (fun w => 2 ^ w) ∧ AR 8 b (fun w => 2 ^ w) := by
  intro f
  induction f with
  | zero => intro d w t r b h1; omega
  | succ f ih =>
    intro d w t r b h1 h2 a1 a2 a3
    rw [b_Wi_reset_12, show (8 : Int32) = nI 8 from rfl, if_le (by omega) (by omega)]
    cases d with
    | zero => rw [if_pos (by omega)]; rw [show w = 8 by omega] at a1 a2 a3; exact ⟨t, r, b, rfl, a1, a2, a3⟩
    | succ d =>
      rw [if_neg (by omega), sh1 w (by omega)]
      simp only [nm_def]
      rw [ck_n (by omega) (by decide), ck_n (by omega) (by decide), ck_n (by omega) (by decide), nI_clamp (by omega), nI_1]
      have hu : ∀ a : Nat → Int32, AR w a (fun w => 2 ^ w) → AR (w + 1) (upd a w (nI (2 ^ w))) (fun w => 2 ^ w) := fun a ha i hi => by
        by_cases e : i = w
        · subst e; rw [upd_at]
        · rw [upd_ne e]; exact ha i (by omega)
      exact ih d (w + 1) _ _ _ (by omega) (by omega) (hu t a1) (hu r a2) (hu b a3)
theorem start_loop {F : Nat} {modes products wk ik : Int32} {wr re : Nat → Int32} : ∀ (f d w : Nat) (ro : Nat → Int32), d < f → w + d = 8 → AR w ro (fun w => 2 ^ w) →
    ∃ ro', b_Mo_start_12 F f (nI w) modes products wk ik ro wr re = ((f_Mo_writeAll F modes 0 ik ro' wr re).bind fun u_2 => some (modes, products, 0, u_2.1, ro', u_2.2.1, u_2.2.2)) ∧ AR 8 ro' (fun w => 2 ^ w) := by
  intro f
  induction f with
  | zero => intro d w t h1; omega
  | succ f ih =>
    intro d w t h1 h2 a1
    rw [b_Mo_start_12, show (8 : Int32) = nI 8 from rfl, if_le (by omega) (by omega)]
    cases d with
    | zero => rw [if_pos (by omega)]; rw [show w = 8 by omega] at a1; exact ⟨t, rfl, a1⟩
    | succ d =>
      rw [if_neg (by omega), sh1 w (by omega)]
      simp only [nm_def]
      rw [ck_n (by omega) (by decide), nI_clamp (by omega), nI_1]
      refine ih d (w + 1) _ (by omega) (by omega) (fun i hi => ?_)
      by_cases e : i = w
      · subst e; rw [upd_at]
      · rw [upd_ne e]; exact a1 i (by omega)
theorem wrt_id {n s : Nat} (hn : n ≤ 8) (hs : s < 2 ^ n) : wrt n (fun w => 2 ^ w) s = s := by
  have h8 := n8 hn
  apply Nat.eq_of_testBit_eq
  intro i
  rw [wrt_bit]
  by_cases hi : i < n
  · rw [od_bit i (by omega) s (by omega)]; simp [hi]
  · rw [tb_hi hs (by omega)]; simp [hi]
theorem begin_all {F n : Nat} {size kind modes products wk ik : Int32} {told rows back rowOf wr re : Nat → Int32} (hF : 600 < F) (hn1 : 1 ≤ n) (hn : n ≤ 8) :
    ∃ t r b ro' wr' re', f_Wi_reset F size kind told rows back (nI n) = some (nI n, 0, t, r, b) ∧ f_Mo_start F modes products wk ik rowOf wr re (nI n) = some (nI n, 0, 0, 0, ro', wr', re') ∧ WR n 0 (fun w => 2 ^ w) (fun w => 2 ^ w) (fun w => 2 ^ w) (nI n) 0 t r b (nI n) 0 ro' wr' re' := by
  obtain ⟨t, r, b, e1, a1, a2, a3⟩ := reset_loop (F := F) (size := nI n) (kind := 0) F 8 0 told rows back (by omega) (by omega) (fun i hi => by omega) (fun i hi => by omega) (fun i hi => by omega)
  obtain ⟨ro', e2, a4⟩ := start_loop (F := F) (modes := nI n) (products := 0) (wk := wk) (ik := ik) (wr := wr) (re := re) F 8 0 rowOf (by omega) (by omega) (fun i hi => by omega)
  have hlt : ∀ w, w < n → 2 ^ w < 2 ^ n := fun w hw => Nat.pow_lt_pow_right (by decide) hw
  have hI : Inv n (fun w => 2 ^ w) (fun w => 2 ^ w) := ⟨fun w hw => ⟨hlt w hw, hlt w hw⟩, fun s hs => by rw [wrt_id hn hs, wrt_id hn hs]⟩
  have er : rowN (fun w => 2 ^ w) 0 = fun w => 2 ^ w := by funext w; simp [rowN]
  obtain ⟨wr', re', e3, q1, q2⟩ := writeAll_all (F := F) (kd := 0) (T := fun w => 2 ^ w) (B := fun w => 2 ^ w) (rowOf := ro') (wr := wr) (re := re) (ik := ik) hF hn (by omega) (fun w hw => ⟨a4 w (by omega), hlt w hw⟩) (by rw [er]; exact hI)
  rw [er] at q1
  refine ⟨t, r, b, ro', wr', re', e1, ?_, ⟨hn1, hn, by omega⟩, ⟨rfl, rfl, rfl, rfl⟩, fun w hw => ⟨a1 w hw, a4 w hw⟩, hlt, fun i hi => a2 i (by omega), fun i hi => a3 i (by omega), hI, q1, q2⟩
  have e2' : f_Mo_start F modes products wk ik rowOf wr re (nI n) = (f_Mo_writeAll F (nI n) (nI 0) ik ro' wr re).bind fun u_2 => some (nI n, 0, 0, u_2.1, ro', u_2.2.1, u_2.2.2) := e2
  rw [e2', e3]; rfl
