/-! the model's image -/
def PL (N : Nat) (G : Nat → Nat → Int) (f s : Nat) (pl : Nat → Int32) : Prop := ∀ f' s', f' < N → s' < N → G f' s' ≠ 0 → (f' < f ∨ f' = f ∧ s' < s) → pl (idx N G f' s') = nI (256 * f' + s')
def IR (N : Nat) (img : Nat → Int64) (H : Nat → Nat → Int) : Prop := ∀ f, f < N → ∀ s, s < N → img (256 * f + s) = Int64.ofInt (H f s)
section
variable {F n : Nat} {G : Nat → Nat → Int} {img : Nat → Int64}
theorem list_in {k12 : Int32 → Int32 → Int32 → (Nat → Int32) → Option (Int32 × Int32 × (Nat → Int32))} {f : Nat} (hF : 300 < F) (hn : n ≤ 8) (hf : f < 2 ^ n) (hG : ∀ f, f < 2 ^ n → ∀ s, s < 2 ^ n → Sml (G f s)) (hI : IR (2 ^ n) img G) :
    ∀ (m d s : Nat) (pl : Nat → Int32), d < m → s + d = 2 ^ n → PL (2 ^ n) G f s pl →
      ∃ pl', b_Mo_listImage_22 F k12 (nI n) img m (nI f) (nI s) (nI (idx (2 ^ n) G f s)) (nI (wS (G f) f s (wF (2 ^ n) G f))) pl = k12 (nI (f + 1)) (nI (cum (2 ^ n) G (f + 1))) (nI (wF (2 ^ n) G (f + 1))) pl' ∧ PL (2 ^ n) G (f + 1) 0 pl' := by
  intro m
  induction m with
  | zero => intro d s pl h1; omega
  | succ m ih =>
    intro d s pl h1 h2 h3
    have h8 := n8 hn
    rw [b_Mo_listImage_22, states_all hn]
    simp only [Option.bind_some]
    rw [if_le (by omega) (by omega)]
    cases d with
    | zero =>
      have e : s = 2 ^ n := by omega
      subst e
      rw [if_pos (Nat.le_refl _), nm_def, nI_1]
      exact ⟨pl, rfl, fun f' s' q1 q2 q3 q4 => h3 f' s' q1 q2 q3 (by omega)⟩
    | succ d =>
      have hs : s < 2 ^ n := by omega
      have hc1 := cum_le (2 ^ n) G f
      have hc2 := cnp_le (G f) s
      have hc3 : f * 2 ^ n ≤ 255 * 256 := Nat.mul_le_mul (by omega) h8
      have hw := wS_le (g := G f) (f := f) s _ (wF_le (N := 2 ^ n) (G := G) f)
      have hpc := pc_le (f ||| s)
      rw [if_neg (by omega), ofs, nm_def, ck_n (by omega) (by decide), nI_clamp (by omega), hI f hf s hs]
      by_cases h0 : G f s = 0
      · rw [if_pos ((cmp_0 (hG f hf s hs)).mpr h0), b_Mo_listImage_106, nm_def, nI_1]
        have := ih d (s + 1) pl (by omega) (by omega) (fun f' s' q1 q2 q3 q4 => h3 f' s' q1 q2 q3 (by
          rcases q4 with q4 | ⟨q4, q5⟩
          · exact Or.inl q4
          · refine Or.inr ⟨q4, ?_⟩
            by_cases r : s' = s
            · rw [q4, r] at q3; exact absurd h0 q3
            · omega))
        simp only [idx, cnp, wS, if_pos h0, Nat.add_zero] at this
        exact this
      · have hor : f ||| s < 256 := or_lt (by omega) (by omega)
        rw [if_neg (fun q => h0 ((cmp_0 (hG f hf s hs)).mp q)), nm_def, ck_n (by show cum (2 ^ n) G f + cnp (G f) s < 65536; omega) (by decide), nm_def, nI_1, nI_or, ones_all (by omega) hor]
        simp only [Option.bind_some]
        rw [nI_clamp (by show cum (2 ^ n) G f + cnp (G f) s < 2 ^ 31; omega), if_le (by omega) (by omega)]
        have key : PL (2 ^ n) G f (s + 1) (upd pl (idx (2 ^ n) G f s) (nI (256 * f + s))) := fun f' s' q1 q2 q3 q4 => by
          by_cases r : f' = f ∧ s' = s
          · rw [r.1, r.2, upd_at]
          · have hlt : f' < f ∨ f' = f ∧ s' < s := by omega
            have := idx_lt q2 q3 hlt
            rw [upd_ne (by omega)]; exact h3 f' s' q1 q2 q3 hlt
        have := ih d (s + 1) _ (by omega) (by omega) key
        simp only [idx, cnp, wS, if_neg h0] at this
        by_cases r : pc (f ||| s) ≤ wS (G f) f s (wF (2 ^ n) G f)
        · rw [if_pos r] at this
          rw [if_pos r, b_Mo_listImage_103, b_Mo_listImage_106, nm_def, nI_1]
          exact this
        · rw [if_neg r] at this
          rw [if_neg r, b_Mo_listImage_103, b_Mo_listImage_106, nm_def, nI_1]
          exact this
theorem list_out (hF : 300 < F) (hn : n ≤ 8) (hG : ∀ f, f < 2 ^ n → ∀ s, s < 2 ^ n → Sml (G f s)) (hI : IR (2 ^ n) img G) :
    ∀ (m d f : Nat) (pl : Nat → Int32), d < m → f + d = 2 ^ n → PL (2 ^ n) G f 0 pl →
      ∃ pl', b_Mo_listImage_12 F (nI n) img m (nI f) (nI (cum (2 ^ n) G f)) (nI (wF (2 ^ n) G f)) pl = some (nI (cum (2 ^ n) G (2 ^ n)), nI (wF (2 ^ n) G (2 ^ n)), pl') ∧ PL (2 ^ n) G (2 ^ n) 0 pl' := by
  intro m
  induction m with
  | zero => intro d s pl h1; omega
  | succ m ih =>
    intro d f pl h1 h2 h3
    have h8 := n8 hn
    rw [b_Mo_listImage_12, states_all hn]
    simp only [Option.bind_some]
    rw [if_le (by omega) (by omega)]
    cases d with
    | zero =>
      have e : f = 2 ^ n := by omega
      subst e
      rw [if_pos (Nat.le_refl _)]
      exact ⟨pl, rfl, h3⟩
    | succ d =>
      rw [if_neg (by omega)]
      obtain ⟨pl', e, h⟩ := list_in (F := F) (k12 := b_Mo_listImage_12 F (nI n) img m) hF hn (show f < 2 ^ n by omega) hG hI F (2 ^ n) 0 pl (by omega) (by omega) h3
      have e' : b_Mo_listImage_22 F (b_Mo_listImage_12 F (nI n) img m) (nI n) img F (nI f) 0 (nI (cum (2 ^ n) G f)) (nI (wF (2 ^ n) G f)) pl = b_Mo_listImage_12 F (nI n) img m (nI (f + 1)) (nI (cum (2 ^ n) G (f + 1))) (nI (wF (2 ^ n) G (f + 1))) pl' := e
      rw [e']
      exact ih d (f + 1) pl' (by omega) (by omega) h
theorem list_all (hF : 300 < F) (hn : n ≤ 8) (hG : ∀ f, f < 2 ^ n → ∀ s, s < 2 ^ n → Sml (G f s)) (hI : IR (2 ^ n) img G) (im iw : Int32) (pl : Nat → Int32) :
    ∃ pl', f_Mo_listImage F (nI n) im iw img pl = some (nI (cum (2 ^ n) G (2 ^ n)), nI (wF (2 ^ n) G (2 ^ n)), pl') ∧ PL (2 ^ n) G (2 ^ n) 0 pl' := by
  have h8 := n8 hn
  exact list_out hF hn hG hI F (2 ^ n) 0 pl (by omega) (by omega) (fun f' s' _ _ _ q => by omega)
/-- at each place in the order stands a term -/
theorem PL.at {pl : Nat → Int32} (hn : n ≤ 8) (h : PL (2 ^ n) G (2 ^ n) 0 pl) {k : Nat} (hk : k < cum (2 ^ n) G (2 ^ n)) : ∃ f s, f < 2 ^ n ∧ s < 2 ^ n ∧ G f s ≠ 0 ∧ idx (2 ^ n) G f s = k ∧ pl k = nI (256 * f + s) := by
  obtain ⟨f, s, a, b, c, d⟩ := idx_surj (2 ^ n) hk
  exact ⟨f, s, a, b, c, d, by rw [← d]; exact h f s a b c (Or.inl a)⟩
theorem many_le (hn : n ≤ 8) : cum (2 ^ n) G (2 ^ n) ≤ 65536 := by
  have h8 := n8 hn
  exact Nat.le_trans (cum_le (2 ^ n) G (2 ^ n)) (Nat.mul_le_mul h8 h8)
theorem even_loop2 {pl : Nat → Int32} {H : Nat → Nat → Int} (hn : n ≤ 8) (hH : ∀ f, f < 2 ^ n → ∀ s, s < 2 ^ n → Sml (H f s)) (hI : IR (2 ^ n) img H) (hP : PL (2 ^ n) G (2 ^ n) 0 pl) :
    ∀ (m d k : Nat), d < m → k + d = cum (2 ^ n) G (2 ^ n) → (∀ f s, f < 2 ^ n → s < 2 ^ n → G f s ≠ 0 → idx (2 ^ n) G f s < k → ∃ q, H f s = 2 * q) →
      (b_Mo_isAllEven_2 F (nI (cum (2 ^ n) G (2 ^ n))) img pl m (nI k) = some 1 ∧ ∀ f s, f < 2 ^ n → s < 2 ^ n → G f s ≠ 0 → ∃ q, H f s = 2 * q) ∨ (b_Mo_isAllEven_2 F (nI (cum (2 ^ n) G (2 ^ n))) img pl m (nI k) = some 0 ∧ ∃ f s, f < 2 ^ n ∧ s < 2 ^ n ∧ ¬ ∃ q, H f s = 2 * q) := by
  intro m
  induction m with
  | zero => intro d k h1; omega
  | succ m ih =>
    intro d k h1 h2 h3
    have h8 := n8 hn
    have hm := many_le (G := G) hn
    rw [b_Mo_isAllEven_2, if_le (by omega) (by omega)]
    cases d with
    | zero =>
      rw [if_pos (by omega)]
      refine Or.inl ⟨rfl, fun f s q1 q2 q3 => h3 f s q1 q2 q3 ?_⟩
      have := idx_lt (f := 2 ^ n) (s := 0) q2 q3 (Or.inl q1)
      simp only [idx, cnp, Nat.add_zero] at this ⊢
      omega
    | succ d =>
      obtain ⟨f, s, hf, hs, h0, hi, hp⟩ := hP.at hn (show k < cum (2 ^ n) G (2 ^ n) by omega)
      rw [if_neg (by omega), ck_n (by omega) (by decide), nm_def, nI_clamp (by omega), hp, ck_n (by omega) (by decide), ckZl_2, nI_clamp (by omega), hI f hf s hs]
      by_cases hq : ∃ q, H f s = 2 * q
      · rw [if_pos ((odd64 (hH f hf s hs)).mpr hq), nm_def, nI_1]
        refine ih d (k + 1) (by omega) (by omega) (fun f' s' q1 q2 q3 q4 => ?_)
        by_cases e : idx (2 ^ n) G f' s' = k
        · obtain ⟨r1, r2⟩ := idx_inj hs q2 h0 q3 (by omega)
          rw [r1, r2]; exact hq
        · exact h3 f' s' q1 q2 q3 (by omega)
      · rw [if_neg (fun q => hq ((odd64 (hH f hf s hs)).mp q))]
        exact Or.inr ⟨rfl, f, s, hf, hs, hq⟩
abbrev K106 := Int32 → Int32 → Int32 → Int32 → Int32 → Int32 → (Nat → Int64) → (Nat → Int64) → (Nat → Int32) → Option (Int32 × Int32 × Int32 × Int32 × Int32 × Int32 × (Nat → Int64) × (Nat → Int64) × (Nat → Int32))
theorem halve_loop {k106 : K106} {pr : Int32} {ups downs reads pl : Nat → Int32} {num mx : Nat → Int64} {H Q : Nat → Nat → Int} {ik a b ip iw : Int32} (hn : n ≤ 8) (hH : ∀ f, f < 2 ^ n → ∀ s, s < 2 ^ n → Sml (H f s)) (hQ : ∀ f, f < 2 ^ n → ∀ s, s < 2 ^ n → H f s = 2 * Q f s) (hGH : ∀ f, f < 2 ^ n → ∀ s, s < 2 ^ n → G f s = 0 → H f s = 0) (hP : PL (2 ^ n) G (2 ^ n) 0 pl) :
    ∀ (m d k : Nat) (img : Nat → Int64), d < m → k + d = cum (2 ^ n) G (2 ^ n) → IR (2 ^ n) img (fun f s => if idx (2 ^ n) G f s < k then Q f s else H f s) →
      ∃ img', b_Mo_findImage_122 F k106 (nI n) pr ups downs num reads m (nI k) ik a b ip (nI (cum (2 ^ n) G (2 ^ n))) iw mx img pl = k106 ik a b (ip - 1) (nI (cum (2 ^ n) G (2 ^ n))) iw mx img' pl ∧ IR (2 ^ n) img' Q := by
  intro m
  induction m with
  | zero => intro d k img h1; omega
  | succ m ih =>
    intro d k img h1 h2 hI
    have h8 := n8 hn
    have hm := many_le (G := G) hn
    rw [b_Mo_findImage_122, if_le (by omega) (by omega)]
    cases d with
    | zero =>
      rw [if_pos (by omega), nm_def]
      refine ⟨img, rfl, fun f hf s hs => ?_⟩
      rw [hI f hf s hs]
      dsimp only
      by_cases h0 : G f s = 0
      · have e1 := hGH f hf s hs h0
        have e2 := hQ f hf s hs
        have e3 : Q f s = 0 := by omega
        rw [e1, e3, ite_self]
      · have := idx_lt (f := 2 ^ n) (s := 0) hs h0 (Or.inl hf)
        simp only [idx, cnp, Nat.add_zero] at this
        rw [if_pos (by show cum (2 ^ n) G f + cnp (G f) s < k; omega)]
    | succ d =>
      obtain ⟨f, s, hf, hs, h0, hi, hp⟩ := hP.at hn (show k < cum (2 ^ n) G (2 ^ n) by omega)
      have e1 := hI f hf s hs
      dsimp only at e1
      rw [if_neg (by omega)] at e1
      rw [if_neg (by omega), ck_n (by omega) (by decide), ck_n (by omega) (by decide), nm_def, nI_clamp (by omega), hp, ck_n (by omega) (by decide), ckZl_2, nm_def, ck_n (by omega) (by decide), nm_def, nI_clamp (by omega), nI_1, e1, half64 (hH f hf s hs) (hQ f hf s hs)]
      refine ih d (k + 1) _ (by omega) (by omega) (fun f' hf' s' hs' => ?_)
      by_cases e : f' = f ∧ s' = s
      · rw [e.1, e.2, updL_at]
        dsimp only
        rw [if_pos (by omega)]
      · rw [updL_ne (by omega), hI f' hf' s' hs']
        dsimp only
        by_cases g0 : G f' s' = 0
        · have e1 := hGH f' hf' s' hs' g0
          have e2 := hQ f' hf' s' hs'
          have e3 : Q f' s' = 0 := by omega
          rw [e1, e3, ite_self, ite_self]
        · have : idx (2 ^ n) G f' s' ≠ k := fun q => e (idx_inj hs hs' h0 g0 (by omega))
          by_cases r : idx (2 ^ n) G f' s' < k
          · rw [if_pos r, if_pos (by omega)]
          · rw [if_neg r, if_neg (by omega)]
/-- the model's image, found -/
def ImgOk (n : Nat) (G : Nat → Nat → Int) (ip im iw : Int32) (img : Nat → Int64) (pl : Nat → Int32) (p : Nat) (H : Nat → Nat → Int) : Prop :=
  p ≤ n ∧ ip = nI p ∧ im = nI (cum (2 ^ n) G (2 ^ n)) ∧ iw = nI (wF (2 ^ n) G (2 ^ n)) ∧ PL (2 ^ n) G (2 ^ n) 0 pl ∧ IR (2 ^ n) img H ∧ (∀ f, f < 2 ^ n → ∀ s, s < 2 ^ n → G f s = 2 ^ (n - p) * H f s) ∧ (p = 0 ∨ ¬ ∀ f s, f < 2 ^ n → s < 2 ^ n → ∃ q, H f s = 2 * q)
theorem power_loop {pr : Int32} {ups downs reads pl : Nat → Int32} {num mx : Nat → Int64} {ik a b : Int32} (hF : 70000 < F) (hn : n ≤ 8) (hP : PL (2 ^ n) G (2 ^ n) 0 pl) :
    ∀ (m p : Nat) (img : Nat → Int64) (H : Nat → Nat → Int), p < m → p ≤ n → (∀ f, f < 2 ^ n → ∀ s, s < 2 ^ n → Sml (H f s)) → (∀ f, f < 2 ^ n → ∀ s, s < 2 ^ n → G f s = 2 ^ (n - p) * H f s) → IR (2 ^ n) img H →
      ∃ ip' img' p' H', b_Mo_findImage_106 F (nI n) pr ups downs num reads m ik a b (nI p) (nI (cum (2 ^ n) G (2 ^ n))) (nI (wF (2 ^ n) G (2 ^ n))) mx img pl = some (ik, a, b, ip', nI (cum (2 ^ n) G (2 ^ n)), nI (wF (2 ^ n) G (2 ^ n)), mx, img', pl) ∧ ImgOk n G ip' (nI (cum (2 ^ n) G (2 ^ n))) (nI (wF (2 ^ n) G (2 ^ n))) img' pl p' H' := by
  intro m
  induction m with
  | zero => intro p img H h1; omega
  | succ m ih =>
    intro p img H h1 h2 hH hGH hI
    have hm := many_le (G := G) hn
    rw [b_Mo_findImage_106, show (0 : Int32) = nI 0 from rfl, if_le (by omega) (by omega)]
    by_cases h0 : p ≤ 0
    · rw [if_pos h0]
      exact ⟨_, _, p, H, rfl, h2, rfl, rfl, rfl, hP, hI, hGH, Or.inl (by omega)⟩
    · have hz : ∀ f, f < 2 ^ n → ∀ s, s < 2 ^ n → G f s = 0 → H f s = 0 := fun f hf s hs q => by
        have e := hGH f hf s hs
        rw [q] at e
        rcases Int.mul_eq_zero.mp e.symm with r | r
        · exact absurd r (Int.ne_of_gt (Int.pow_pos (by decide)))
        · exact r
      rw [if_neg h0, f_Mo_isAllEven]
      rcases even_loop2 (F := F) (G := G) hn hH hI hP F (cum (2 ^ n) G (2 ^ n)) 0 (by omega) (by omega) (fun f s _ _ _ q => by omega) with ⟨e, hev⟩ | ⟨e, f, s, hf, hs, hno⟩
      · have e' : b_Mo_isAllEven_2 F (nI (cum (2 ^ n) G (2 ^ n))) img pl F 0 = some 1 := e
        rw [e']
        simp only [Option.bind_some]
        rw [if_neg (by decide)]
        have hQ : ∀ f, f < 2 ^ n → ∀ s, s < 2 ^ n → H f s = 2 * (H f s / 2) := fun f hf s hs => by
          by_cases g0 : G f s = 0
          · rw [hz f hf s hs g0]; rfl
          · obtain ⟨q, e⟩ := hev f s hf hs g0
            omega
        obtain ⟨img', e2, h'⟩ := halve_loop (F := F) (k106 := b_Mo_findImage_106 F (nI n) pr ups downs num reads m) (pr := pr) (ups := ups) (downs := downs) (reads := reads) (num := num) (mx := mx) (ik := ik) (a := a) (b := b) (ip := nI p) (iw := nI (wF (2 ^ n) G (2 ^ n))) hn hH hQ hz hP F (cum (2 ^ n) G (2 ^ n)) 0 img (by omega) (by omega) (fun f hf s hs => by rw [hI f hf s hs]; dsimp only; rw [if_neg (by omega)])
        rw [e2]
        obtain ⟨p', rfl⟩ : ∃ p', p = p' + 1 := ⟨p - 1, by omega⟩
        rw [nI_pred]
        refine ih p' img' _ (by omega) (by omega) (fun f hf s hs => ?_) (fun f hf s hs => ?_) h'
        · have := hH f hf s hs
          constructor <;> omega
        · rw [hGH f hf s hs, show n - p' = (n - (p' + 1)) + 1 by omega, Int.pow_succ, Int.mul_assoc, ← hQ f hf s hs]
      · have e' : b_Mo_isAllEven_2 F (nI (cum (2 ^ n) G (2 ^ n))) img pl F 0 = some 0 := e
        rw [e']
        simp only [Option.bind_some]
        rw [if_pos (by decide)]
        exact ⟨_, _, p, H, rfl, h2, rfl, rfl, rfl, hP, hI, hGH, Or.inr (fun q => hno (q f s hf hs))⟩
end
/-! filling the image row by row -/
abbrev K19f := Int32 → Int32 → Int32 → Int32 → Int32 → Int32 → Int32 → (Nat → Int64) → (Nat → Int64) → (Nat → Int32) → Option (Int32 × Int32 × Int32 × Int32 × Int32 × Int32 × (Nat → Int64) × (Nat → Int64) × (Nat → Int32))
theorem row_in {F n f : Nat} {k19 : K19f} {B : Nat → Nat} {M : Nat → Nat → Int} {pr : Int32} {ups downs reads pl : Nat → Int32} {num mx : Nat → Int64} {ik a b ip im iw : Int32} (hF : 300 < F) (hn : n ≤ 8) (hf : f < 2 ^ n) (hM : MX n mx M) (hR : ∀ s, s < 2 ^ n → reads s = nI (wrt n B s)) :
    ∀ (m d y : Nat) (img : Nat → Int64), d < m → y + d = 2 ^ n → (∀ f', f' < f → ∀ s, s < 2 ^ n → img (256 * f' + s) = Int64.ofInt (Gm n B M f' s)) → (∀ y', y' < y → img (256 * f + y') = Int64.ofInt (M (wrt n B (y' ^^^ f)) (wrt n B y'))) →
      ∃ img', b_Mo_findImage_29 F k19 (nI n) pr ups downs num reads m (nI f) (nI y) ik a b ip im iw mx img pl = k19 (nI (f + 1)) ik a b ip im iw mx img' pl ∧ ∀ f', f' < f + 1 → ∀ s, s < 2 ^ n → img' (256 * f' + s) = Int64.ofInt (Gm n B M f' s) := by
  intro m
  induction m with
  | zero => intro d y img h1; omega
  | succ m ih =>
    intro d y img h1 h2 h3 h4
    have h8 := n8 hn
    rw [b_Mo_findImage_29, states_all hn]
    simp only [Option.bind_some]
    rw [if_le (by omega) (by omega)]
    cases d with
    | zero =>
      rw [if_pos (by omega), show (256 : Int32) = nI 256 from rfl, pk_mul]
      obtain ⟨img', e, g1, g2⟩ := addup_all (F := F) (img := img) (a := fun y => M (wrt n B (y ^^^ f)) (wrt n B y)) hF hn hf (fun x hx => h4 x (by omega))
      rw [e]
      simp only [Option.bind_some]
      rw [nm_def, nI_1]
      refine ⟨img', rfl, fun f' q1 s q2 => ?_⟩
      by_cases e2 : f' = f
      · rw [e2]; exact g1 s q2
      · rw [g2 _ (fun x hx => by omega)]; exact h3 f' (by omega) s q2
    | succ d =>
      have hyf : y ^^^ f < 2 ^ n := Nat.xor_lt_two_pow (by omega) hf
      have w1 := wrt_lt B (y ^^^ f) n
      have w2 := wrt_lt B y n
      rw [if_neg (by omega), nI_xor, nm_def, ck_n (by omega) (by decide), ck_n (by omega) (by decide), nI_clamp (by omega), nI_clamp (by omega), hR _ hyf, hR y (by omega), ofs, nm_def, ck_n (by omega) (by decide), nm_def, nI_clamp (by omega), hM _ w1 _ w2, ofs, ck_n (by omega) (by decide), nm_def, nI_clamp (by omega), nI_1]
      refine ih d (y + 1) _ (by omega) (by omega) (fun f' q1 s q2 => ?_) (fun y' q => ?_)
      · rw [updL_ne (by omega)]; exact h3 f' q1 s q2
      · by_cases e : y' = y
        · rw [e, updL_at]
        · rw [updL_ne (by omega)]; exact h4 y' (by omega)
theorem row_out {F n : Nat} {B : Nat → Nat} {M : Nat → Nat → Int} {pr : Int32} {ups downs reads pl : Nat → Int32} {num mx : Nat → Int64} {ik a b ip im iw : Int32} (hF : 70000 < F) (hn : n ≤ 8) (hM : MX n mx M) (hR : ∀ s, s < 2 ^ n → reads s = nI (wrt n B s)) (hG : ∀ f, f < 2 ^ n → ∀ s, s < 2 ^ n → Sml (Gm n B M f s)) :
    ∀ (m d f : Nat) (img : Nat → Int64), d < m → f + d = 2 ^ n → (∀ f', f' < f → ∀ s, s < 2 ^ n → img (256 * f' + s) = Int64.ofInt (Gm n B M f' s)) →
      ∃ ip' im' iw' img' pl' p H, b_Mo_findImage_19 F (nI n) pr ups downs num reads m (nI f) ik a b ip im iw mx img pl = some (ik, a, b, ip', im', iw', mx, img', pl') ∧ ImgOk n (Gm n B M) ip' im' iw' img' pl' p H := by
  intro m
  induction m with
  | zero => intro d f img h1; omega
  | succ m ih =>
    intro d f img h1 h2 h3
    have h8 := n8 hn
    rw [b_Mo_findImage_19, states_all hn]
    simp only [Option.bind_some]
    rw [if_le (by omega) (by omega)]
    cases d with
    | zero =>
      have e : f = 2 ^ n := by omega
      subst e
      rw [if_pos (Nat.le_refl _)]
      obtain ⟨pl', e, hP⟩ := list_all (F := F) (by omega) hn hG (fun f hf s hs => h3 f hf s hs) im iw pl
      rw [e]
      simp only [Option.bind_some]
      obtain ⟨ip', img', p', H', e2, h⟩ := power_loop (F := F) (pr := pr) (ups := ups) (downs := downs) (reads := reads) (num := num) (mx := mx) (ik := ik) (a := a) (b := b) hF hn hP F n img (Gm n B M) (by omega) (Nat.le_refl _) hG (fun f hf s hs => by rw [Nat.sub_self]; simp) (fun f hf s hs => h3 f hf s hs)
      exact ⟨ip', _, _, img', pl', p', H', e2, h⟩
    | succ d =>
      rw [if_neg (by omega)]
      obtain ⟨img', e, h⟩ := row_in (F := F) (k19 := b_Mo_findImage_19 F (nI n) pr ups downs num reads m) (pr := pr) (ups := ups) (downs := downs) (num := num) (pl := pl) (ik := ik) (a := a) (b := b) (ip := ip) (im := im) (iw := iw) (by omega) hn (show f < 2 ^ n by omega) hM hR F (2 ^ n) 0 img (by omega) (by omega) h3 (fun y' q => by omega)
      have e' : b_Mo_findImage_29 F (b_Mo_findImage_19 F (nI n) pr ups downs num reads m) (nI n) pr ups downs num reads F (nI f) 0 ik a b ip im iw mx img pl = b_Mo_findImage_19 F (nI n) pr ups downs num reads m (nI (f + 1)) ik a b ip im iw mx img' pl := e
      rw [e']
      exact ih d (f + 1) img' (by omega) (by omega) h
theorem amp_bound {U D s t : Nat} {v C : Int} (h0 : 0 ≤ C) (h1 : -C ≤ v) (h2 : v ≤ C) : -C ≤ amp U D s t v ∧ amp U D s t v ≤ C := by
  rw [amp]
  by_cases q : acts U D s = true ∧ s ^^^ D ^^^ U = t
  · rw [if_pos q]; exact sgZ_bound (g := sgn U D s) h1 h2
  · rw [if_neg q]; omega
theorem Mat_bound {n0 len : Nat} {K : Nat → Nat} {V : Nat → Int} (hO : SumOk n0 len K V) (t s : Nat) : -60000000 ≤ Mat len K V t s ∧ Mat len K V t s ≤ 60000000 := by
  have h := sumZ_bound (C := 1000000) (n := len) (f := fun i => amp (K i / 256) (K i % 256) s t (V i)) (fun i hi => amp_bound (by decide) (hO.2.2 i hi).2.1 (hO.2.2 i hi).2.2.1)
  have h : -(len * 1000000) ≤ Mat len K V t s ∧ Mat len K V t s ≤ len * 1000000 := h
  have hl := hO.1
  constructor <;> omega
theorem Gm_bound {n n0 len : Nat} {B : Nat → Nat} {K : Nat → Nat} {V : Nat → Int} (hn : n ≤ 8) (hO : SumOk n0 len K V) (f s : Nat) : -15360000000 ≤ Gm n B (Mat len K V) f s ∧ Gm n B (Mat len K V) f s ≤ 15360000000 := by
  have h := sumZ_bound (C := 60000000) (n := 2 ^ n) (f := fun y => sgZ (od (s &&& y)) (Mat len K V (wrt n B (y ^^^ f)) (wrt n B y))) (fun i hi => sgZ_bound (Mat_bound hO _ _).1 (Mat_bound hO _ _).2)
  have h : -(((2 ^ n : Nat) : Int) * 60000000) ≤ Gm n B (Mat len K V) f s ∧ Gm n B (Mat len K V) f s ≤ ((2 ^ n : Nat) : Int) * 60000000 := h
  have h8 := n8 hn
  generalize 2 ^ n = N at *
  constructor <;> omega
theorem findImage_all {F n len : Nat} {B : Nat → Nat} {K : Nat → Nat} {V : Nat → Int} {ups downs reads pl : Nat → Int32} {num mx img : Nat → Int64} {a b ip im iw : Int32} (hF : 70000 < F) (hn : n ≤ 8) (hO : SumOk n len K V) (hM : SumM (nI len) ups downs num len K V) (hR : ∀ s, s < 2 ^ n → reads s = nI (wrt n B s)) :
    ∃ a' b' ip' im' iw' mx' img' pl' p H, f_Mo_findImage F (nI n) (nI len) 0 a b ip im iw ups downs num reads mx img pl = some (1, a', b', ip', im', iw', mx', img', pl') ∧ ImgOk n (Gm n B (Mat len K V)) ip' im' iw' img' pl' p H := by
  have h8 := n8 hn
  rw [f_Mo_findImage, if_pos rfl]
  obtain ⟨a', b', mx', e, hX⟩ := fill_all (F := F) (by omega) hn hO hM a b mx
  rw [e]
  simp only [Option.bind_some]
  obtain ⟨ip', im', iw', img', pl', p, H, e2, h⟩ := row_out (F := F) (pr := nI len) (ups := ups) (downs := downs) (num := num) (pl := pl) (ik := 1) (a := a') (b := b') (ip := ip) (im := im) (iw := iw) hF hn hX hR (fun f _ s _ => by have := Gm_bound (B := B) hn hO f s; constructor <;> omega) F (2 ^ n) 0 img (by omega) (by omega) (fun f' q => by omega)
  exact ⟨a', b', ip', im', iw', mx', img', pl', p, H, e2, h⟩
