/-! the model's put, take and add -/
theorem cmp_eq {x y : Int64} : lg_cmp x y = 0 ↔ x = y := by
  unfold lg_cmp
  by_cases h1 : x > y
  · rw [if_pos h1]
    have h2 : y < x := h1
    exact ⟨fun h => absurd h (by decide), fun h => by subst h; exact absurd h2 (Int64.lt_irrefl)⟩
  · rw [if_neg h1]
    by_cases h2 : x = y
    · rw [if_pos h2]; exact ⟨fun _ => h2, fun _ => rfl⟩
    · rw [if_neg h2]; exact ⟨fun h => absurd h (by decide), fun h => absurd h h2⟩
theorem cmp_gt {x y : Int64} : 0 < lg_cmp x y ↔ y < x := by
  unfold lg_cmp
  by_cases h1 : x > y
  · rw [if_pos h1]; exact ⟨fun _ => h1, fun _ => by decide⟩
  · rw [if_neg h1]
    by_cases h2 : x = y
    · rw [if_pos h2]; exact ⟨fun h => absurd h (by decide), fun h => absurd h h1⟩
    · rw [if_neg h2]; exact ⟨fun h => absurd h (by decide), fun h => absurd h h1⟩
theorem updL_at (f : Nat → Int64) (k : Nat) (x : Int64) : vp_updL f k x k = x := by simp [vp_updL]
theorem updL_ne {f : Nat → Int64} {k j : Nat} {x : Int64} (h : j ≠ k) : vp_updL f k x j = f j := by simp [vp_updL, h]
abbrev Sml (w : Int) : Prop := -4611686018427387904 ≤ w ∧ w < 4611686018427387904
theorem put_0 {F m : Nat} {nu nd : Nat → Int32} {nn : Nat → Int64} {a b : Int32} : f_Mo_put F (nI m) nu nd nn a b (Int64.ofInt 0) = some (1, nI m, nu, nd, nn) := by
  rw [f_Mo_put, if_pos (show lg_cmp (Int64.ofInt 0) 0 = 0 from cmp_eq.mpr rfl)]
theorem put_f {F m : Nat} {nu nd : Nat → Int32} {nn : Nat → Int64} {a b : Int32} {w : Int} (hm : m ≤ 60) (hw : Sml w) (h0 : w ≠ 0) (h : m = 60 ∨ Bey w) : f_Mo_put F (nI m) nu nd nn a b (Int64.ofInt w) = some (0, nI m, nu, nd, nn) := by
  have e0 : ¬ lg_cmp (Int64.ofInt w) 0 = 0 := fun q => h0 (by
    have := congrArg Int64.toInt (cmp_eq.mp q)
    rw [lI_toInt (by omega) (by omega)] at this
    exact this)
  rw [f_Mo_put, if_neg e0, show (60 : Int32) = nI 60 from rfl, if_eqn (by omega) (by omega)]
  by_cases h1 : m = 60
  · rw [if_pos h1]
  · rw [if_neg h1]
    have hb : Bey w := by rcases h with h | h; exact absurd h h1; exact h
    by_cases h2 : 1000000 < w
    · rw [if_pos (cmp_gt.mpr (by rw [Int64.lt_iff_toInt_lt, lI_toInt (by omega) (by omega)]; exact h2))]
    · rw [if_neg (fun q => h2 (by have := cmp_gt.mp q; rw [Int64.lt_iff_toInt_lt, lI_toInt (by omega) (by omega)] at this; exact this))]
      have h3 : w < -1000000 := by rcases hb with h | h; exact h; exact absurd h h2
      rw [if_neg (fun q => by
        have := (lg_cmp_ge _ _).mp q
        rw [Int64.le_iff_toInt_le, lI_toInt (by omega) (by omega)] at this
        have h4 : (-1000000 : Int) ≤ w := this
        omega)]
theorem put_t {F m : Nat} {nu nd : Nat → Int32} {nn : Nat → Int64} {a b : Int32} {w : Int} (hm : m < 60) (hw : Sml w) (h0 : w ≠ 0) (h : ¬ Bey w) : f_Mo_put F (nI m) nu nd nn a b (Int64.ofInt w) = some (1, nI (m + 1), upd nu m a, upd nd m b, vp_updL nn m (Int64.ofInt w)) := by
  have e0 : ¬ lg_cmp (Int64.ofInt w) 0 = 0 := fun q => h0 (by
    have := congrArg Int64.toInt (cmp_eq.mp q)
    rw [lI_toInt (by omega) (by omega)] at this
    exact this)
  rw [f_Mo_put, if_neg e0, show (60 : Int32) = nI 60 from rfl, if_eqn (by omega) (by omega), if_neg (by omega),
    if_neg (fun q => h (Or.inr (by have := cmp_gt.mp q; rw [Int64.lt_iff_toInt_lt, lI_toInt (by omega) (by omega)] at this; exact this))),
    if_pos ((lg_cmp_ge _ _).mpr (by
      rw [Int64.le_iff_toInt_le, lI_toInt (by omega) (by omega)]
      show (-1000000 : Int) ≤ w
      rcases Int.lt_or_le w (-1000000) with q | q
      · exact absurd (Or.inl q) h
      · exact q)), ck_n hm (by decide), ck_n hm (by decide), ck_n hm (by decide), nm_def, nI_1, nI_clamp (by omega)]
theorem SumM.push {m : Nat} {nu nd : Nat → Int32} {nn : Nat → Int64} {K : Nat → Nat} {V : Nat → Int} {c : Int32} (h : SumM c nu nd nn m K V) {a b : Int32} {w : Int64} (ha : a = nI (K m / 256)) (hb : b = nI (K m % 256)) (hw : w = Int64.ofInt (V m)) : SumM (nI (m + 1)) (upd nu m a) (upd nd m b) (vp_updL nn m w) (m + 1) K V := by
  refine ⟨rfl, fun i hi => ?_⟩
  by_cases e : i = m
  · subst e; rw [upd_at, upd_at, updL_at]; exact ⟨ha, hb, hw⟩
  · rw [upd_ne e, upd_ne e, updL_ne e]; exact h.2 i (by omega)
theorem mtake_loop {F m : Nat} {nu nd : Nat → Int32} {nn : Nat → Int64} {ik : Int32} (hm : m ≤ 60) : ∀ (n i : Nat) (u d : Nat → Int32) (v : Nat → Int64), m < n + i → i ≤ m → (∀ j, j < i → u j = nu j ∧ d j = nd j ∧ v j = nn j) →
    ∃ u' d' v', b_Mo_take_10 F (nI m) nu nd nn n (nI i) (nI m) ik u d v = some (nI m, nI m, 0, u', d', v') ∧ ∀ j, j < m → u' j = nu j ∧ d' j = nd j ∧ v' j = nn j := by
  intro n
  induction n with
  | zero => intro i u d v h1 h2; omega
  | succ n ih =>
    intro i u d v h1 h2 h3
    rw [b_Mo_take_10, if_le (by omega) (by omega)]
    by_cases hi : m ≤ i
    · rw [if_pos hi]; exact ⟨_, _, _, rfl, fun j hj => h3 j (by omega)⟩
    · rw [if_neg hi]
      simp only [nm_def]
      rw [ck_n (by omega) (by decide), ck_n (by omega) (by decide), ck_n (by omega) (by decide), ck_n (by omega) (by decide), ck_n (by omega) (by decide), ck_n (by omega) (by decide), nI_1, nI_clamp (by omega)]
      refine ih (i + 1) _ _ _ (by omega) (by omega) (fun j hj => ?_)
      by_cases e : j = i
      · subst e; rw [upd_at, upd_at, updL_at]; exact ⟨rfl, rfl, rfl⟩
      · rw [upd_ne e, upd_ne e, updL_ne e]; exact h3 j (by omega)
theorem mtake_all {F m : Nat} {nu nd u d : Nat → Int32} {nn v : Nat → Int64} {pr ik : Int32} {K : Nat → Nat} {V : Nat → Int} (hF : 100 < F) (hm : m ≤ 60) (h : SumM (nI m) nu nd nn m K V) :
    ∃ u' d' v', f_Mo_take F pr ik (nI m) u d v nu nd nn = some (nI m, nI m, 0, u', d', v') ∧ SumM (nI m) u' d' v' m K V := by
  rw [f_Mo_take, show (0 : Int32) = nI 0 from rfl]
  obtain ⟨u', d', v', e, hj⟩ := mtake_loop (F := F) (nu := nu) (nd := nd) (nn := nn) (ik := ik) hm F 0 u d v (by omega) (Nat.zero_le _) (fun j hj => absurd hj (Nat.not_lt_zero j))
  refine ⟨u', d', v', e, rfl, fun i hi => ?_⟩
  obtain ⟨e1, e2, e3⟩ := hj i hi
  rw [e1, e2, e3]
  exact h.2 i hi
