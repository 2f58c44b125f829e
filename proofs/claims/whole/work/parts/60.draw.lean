/-! the program's picture, drawn -/
theorem tally_loop {F n : Nat} {g : Nat → Int} {h : Nat} {nb : Nat → Int64} {w0 : Nat} {te : Int32} {ta : Nat → Int32} (hn : n ≤ 8) (hh : h < 2 ^ n) (hw : w0 ≤ 16) (hN : NR n nb g) (hg : ∀ s, s < 2 ^ n → Sml (g s)) :
    ∀ (f d s : Nat) (dg : Int64), d < f → s + d = 2 ^ n → (∀ k, k < 9 → (LZ k dg ↔ ∀ s', s' < s → (2 : Int) ^ k ∣ g s')) →
      ∃ dg', b_Pi_tally_8 F (nI h) nb f (nI (2 ^ n)) dg (nI (cnp g s)) (nI s) te (nI (wS g h s w0)) ta = some (dg', te + nI (cnp g (2 ^ n)), nI (wS g h (2 ^ n) w0), upd ta h (nI (cnp g (2 ^ n)))) ∧ ∀ k, k < 9 → (LZ k dg' ↔ ∀ s', s' < 2 ^ n → (2 : Int) ^ k ∣ g s') := by
  intro f
  induction f with
  | zero => intro d s dg h1; omega
  | succ f ih =>
    intro d s dg h1 h2 h3
    have h8 := n8 hn
    rw [b_Pi_tally_8, if_le (by omega) (by omega)]
    cases d with
    | zero =>
      have e : s = 2 ^ n := by omega
      subst e
      rw [if_pos (Nat.le_refl _), ck_n (by omega) (by decide), nm_def, nI_clamp (by omega)]
      exact ⟨dg, rfl, h3⟩
    | succ d =>
      have hs : s < 2 ^ n := by omega
      have hws := wS_le (g := g) (f := h) s w0 hw
      have hpc := pc_le (h ||| s)
      rw [if_neg (by omega), ck_n (by omega) (by decide), nI_clamp (by omega), hN s hs]
      by_cases h0 : g s = 0
      · rw [if_pos ((cmp_0 (hg s hs)).mpr h0), b_Pi_tally_60, nm_def, nI_1]
        have := ih d (s + 1) dg (by omega) (by omega) (fun k hk => by
          rw [h3 k hk]
          constructor
          · intro q s' hs'
            by_cases e : s' = s
            · rw [e, h0]; exact Int.dvd_zero _
            · exact q s' (by omega)
          · intro q s' hs'; exact q s' (by omega))
        simp only [cnp, wS, if_pos h0, Nat.add_zero] at this
        exact this
      · have hor : h ||| s < 256 := or_lt (by omega) (by omega)
        rw [if_neg (fun q => h0 ((cmp_0 (hg s hs)).mp q)), ck_n (by omega) (by decide), nm_def, nm_def, nI_1, nI_or, bc_all (by omega)]
        simp only [Option.bind_some]
        rw [if_lt (by omega) (by omega), nm_def, b_Pi_tally_60, nm_def, nI_1]
        have := ih d (s + 1) (dg ||| Int64.ofInt (g s)) (by omega) (by omega) (fun k hk => by
          rw [LZ_or, h3 k hk, LZ_of hk]
          constructor
          · rintro ⟨q1, q2⟩ s' hs'
            by_cases e : s' = s
            · rw [e]; exact q2
            · exact q1 s' (by omega)
          · intro q; exact ⟨fun s' hs' => q s' (by omega), q s (by omega)⟩)
        simp only [cnp, wS, if_neg h0] at this
        by_cases r : pc (h ||| s) ≤ wS g h s w0
        · rw [if_pos r] at this
          rw [if_neg (by omega)]; exact this
        · rw [if_neg r] at this
          rw [if_pos (by omega)]; exact this
theorem cnp_zero {g : Nat → Int} : ∀ s, (∀ s', s' < s → g s' = 0) → cnp g s = 0 := by
  intro s
  induction s with
  | zero => intro _; rfl
  | succ s ih => intro h; simp only [cnp]; rw [ih (fun s' q => h s' (by omega)), if_pos (h s (by omega))]
theorem wS_zero {g : Nat → Int} {f w : Nat} : ∀ s, (∀ s', s' < s → g s' = 0) → wS g f s w = w := by
  intro s
  induction s with
  | zero => intro _; rfl
  | succ s ih => intro h; simp only [wS]; rw [if_pos (h s (by omega)), ih (fun s' q => h s' (by omega))]
/-- what the program keeps of a drawn picture -/
def PicOk (n len : Nat) (R B K : Nat → Nat) (V : Nat → Int) (held terms widest halvings : Int32) (fo ta : Nat → Int32) (nb : Nat → Int64) (h : Nat) : Prop :=
  terms = nI (cum (2 ^ n) (Gm n B (Mat len K V)) (2 ^ n)) ∧ widest = nI (wF (2 ^ n) (Gm n B (Mat len K V)) (2 ^ n)) ∧ halvings = nI h ∧ h ≤ n ∧
  (∀ f, f < 2 ^ n → ∀ s, s < 2 ^ n → (2 : Int) ^ (n - h) ∣ Gm n B (Mat len K V) f s) ∧ (h = 0 ∨ ¬ ∀ f, f < 2 ^ n → ∀ s, s < 2 ^ n → (2 : Int) ^ (n - h + 1) ∣ Gm n B (Mat len K V) f s) ∧
  (∀ f, f < 2 ^ n → ta f = nI (cnp (Gm n B (Mat len K V) f) (2 ^ n))) ∧ (∀ i, i < len → fo i = nI (FL n R K i)) ∧
  ((∃ f, f < 2 ^ n ∧ held = nI f ∧ NR n nb (Gm n B (Mat len K V) f)) ∨ cum (2 ^ n) (Gm n B (Mat len K V)) (2 ^ n) = 0)
section
variable {F n len : Nat} {R B K : Nat → Nat} {V : Nat → Int} {keys numbers rows back fo : Nat → Int32}
set_option maxHeartbeats 1000000 in
theorem draw_loop {dr ha : Int32} (hF : 300 < F) (hn : n ≤ 8) (hO : SumOk n len K V) (hC : SumC (nI len) keys numbers len K V) (hI : Inv n R B) (hB : AR n back B) (hfo : ∀ i, i < len → fo i = nI (FL n R K i)) :
    ∀ (m d f : Nat) (dg : Int64) (held : Int32) (ta : Nat → Int32) (nb : Nat → Int64) (sp : Nat → Int32), d < m → f + d = 2 ^ n →
      (∀ k, k < 9 → (LZ k dg ↔ ∀ f', f' < f → ∀ s', s' < 2 ^ n → (2 : Int) ^ k ∣ Gm n B (Mat len K V) f' s')) →
      (∀ f', f' < f → ta f' = nI (cnp (Gm n B (Mat len K V) f') (2 ^ n))) → (∀ f', f ≤ f' → f' < 2 ^ n → (ta f' = nI 1 ∧ ∃ j, j < len ∧ FL n R K j = f') ∨ (ta f' = nI 0 ∧ ∀ j, j < len → FL n R K j ≠ f')) →
      ((∃ f', f' < 2 ^ n ∧ held = nI f' ∧ NR n nb (Gm n B (Mat len K V) f')) ∨ cum (2 ^ n) (Gm n B (Mat len K V)) f = 0) →
      ∃ held' te' wi' ha' ta' nb' sp' h, b_Pi_draw_37 F (nI len) keys numbers (nI n) rows back m (nI (2 ^ n)) dg (nI f) dr held (nI (cum (2 ^ n) (Gm n B (Mat len K V)) f)) (nI (wF (2 ^ n) (Gm n B (Mat len K V)) f)) ha fo ta nb sp = some (1, held', te', wi', ha', fo, ta', nb', sp') ∧ PicOk n len R B K V held' te' wi' ha' fo ta' nb' h := by
  intro m
  induction m with
  | zero => intro d f dg held ta nb sp h1; omega
  | succ m ih =>
    intro d f dg held ta nb sp h1 h2 h3 h4 h5 h6
    have h8 := n8 hn
    have hGs : ∀ f s, Sml (Gm n B (Mat len K V) f s) := fun f s => by have := Gm_bound (B := B) hn hO f s; constructor <;> omega
    rw [b_Pi_draw_37, if_le (by omega) (by omega)]
    cases d with
    | zero =>
      have e : f = 2 ^ n := by omega
      subst e
      rw [if_pos (Nat.le_refl _)]
      obtain ⟨h, e, g1, g2, g3⟩ := least_all (F := F) (d := dg) (by omega) hn
      rw [e]
      simp only [Option.bind_some]
      refine ⟨_, _, _, _, _, _, _, h, rfl, rfl, rfl, rfl, g1, (h3 (n - h) (by omega)).mp g2, ?_, h4, hfo, h6⟩
      rcases g3 with g3 | g3
      · exact Or.inl g3
      · by_cases q : h = 0
        · exact Or.inl q
        · exact Or.inr (fun r => g3 ((h3 (n - h + 1) (by omega)).mpr r))
    | succ d =>
      have hf : f < 2 ^ n := by omega
      rw [if_neg (by omega), ck_n (by omega) (by decide), nI_clamp (by omega)]
      rcases h5 f (Nat.le_refl _) hf with ⟨e1, j, hj, ej⟩ | ⟨e1, hno⟩
      · rw [e1, if_neg (by decide)]
        obtain ⟨nb', sp', e2, hN⟩ := hold_all (F := F) (held := held) (numbers2 := numbers) hF hn hO hC hI hB hf hfo nb sp
        rw [e2]
        simp only [Option.bind_some]
        have ht := tally_loop (F := F) (te := nI (cum (2 ^ n) (Gm n B (Mat len K V)) f)) (w0 := wF (2 ^ n) (Gm n B (Mat len K V)) f) (ta := ta) hn hf (wF_le f) hN (fun s _ => hGs f s) F (2 ^ n) 0 0 (by omega) (by omega) (fun k _ => ⟨fun _ s' q => by omega, fun _ => LZ_0 k⟩)
        obtain ⟨dg', e3, hd⟩ := ht
        have e3' : f_Pi_tally F (nI f) (nI (cum (2 ^ n) (Gm n B (Mat len K V)) f)) (nI (wF (2 ^ n) (Gm n B (Mat len K V)) f)) ta nb' (nI (2 ^ n)) = some (dg', nI (cum (2 ^ n) (Gm n B (Mat len K V)) f) + nI (cnp (Gm n B (Mat len K V) f) (2 ^ n)), nI (wS (Gm n B (Mat len K V) f) f (2 ^ n) (wF (2 ^ n) (Gm n B (Mat len K V)) f)), upd ta f (nI (cnp (Gm n B (Mat len K V) f) (2 ^ n)))) := e3
        rw [e3']
        simp only [Option.bind_some]
        rw [nm_def, b_Pi_draw_71, nm_def, nI_1, nI_add]
        refine ih d (f + 1) (dg ||| dg') (nI f) _ nb' sp' (by omega) (by omega) (fun k hk => ?_) (fun f' q => ?_) (fun f' q1 q2 => ?_) (Or.inl ⟨f, hf, rfl, hN⟩)
        · rw [LZ_or, h3 k hk, hd k hk]
          constructor
          · rintro ⟨a, b⟩ f' q s' q2
            by_cases e : f' = f
            · rw [e]; exact b s' q2
            · exact a f' (by omega) s' q2
          · intro a; exact ⟨fun f' q => a f' (by omega), a f (by omega)⟩
        · by_cases e : f' = f
          · rw [e, upd_at]
          · rw [upd_ne e]; exact h4 f' (by omega)
        · rw [upd_ne (by omega)]; exact h5 f' (by omega) q2
      · have hz : ∀ s, Gm n B (Mat len K V) f s = 0 := fun s => G_zero hO hI hf hno s
        have c0 := cnp_zero (g := Gm n B (Mat len K V) f) (2 ^ n) (fun s' _ => hz s')
        have w0 := wS_zero (g := Gm n B (Mat len K V) f) (f := f) (w := wF (2 ^ n) (Gm n B (Mat len K V)) f) (2 ^ n) (fun s' _ => hz s')
        rw [e1, if_pos (by decide), b_Pi_draw_71, nm_def, nI_1]
        have hc : cum (2 ^ n) (Gm n B (Mat len K V)) (f + 1) = cum (2 ^ n) (Gm n B (Mat len K V)) f := by simp only [cum]; rw [c0, Nat.add_zero]
        have hw : wF (2 ^ n) (Gm n B (Mat len K V)) (f + 1) = wF (2 ^ n) (Gm n B (Mat len K V)) f := by simp only [wF]; rw [w0]
        have := ih d (f + 1) dg held ta nb sp (by omega) (by omega) (fun k hk => ?_) (fun f' q => ?_) (fun f' q1 q2 => h5 f' (by omega) q2) (by rw [hc]; exact h6)
        · rw [hc, hw] at this; exact this
        · rw [h3 k hk]
          constructor
          · intro a f' q s' q2
            by_cases e : f' = f
            · rw [e, hz]; exact Int.dvd_zero _
            · exact a f' (by omega) s' q2
          · intro a f' q; exact a f' (by omega)
        · by_cases e : f' = f
          · rw [e, e1, c0]
          · exact h4 f' (by omega)
theorem draw_all (hF : 300 < F) (hn : n ≤ 8) (hO : SumOk n len K V) (hC : SumC (nI len) keys numbers len K V) (hI : Inv n R B) (hR : AR n rows R) (hB : AR n back B) (held te wi ha : Int32) (fo ta : Nat → Int32) (nb : Nat → Int64) (sp : Nat → Int32) :
    ∃ held' te' wi' ha' fo' ta' nb' sp' h, f_Pi_draw F 0 held te wi ha fo ta nb sp (nI len) keys numbers (nI n) rows back = some (1, held', te', wi', ha', fo', ta', nb', sp') ∧ PicOk n len R B K V held' te' wi' ha' fo' ta' nb' h := by
  have h8 := n8 hn
  obtain ⟨fo', ta1, e1, hmk⟩ := mark_all (F := F) hF hn hO hC hR (fun w hw => (hI.1 w hw).1) fo ta
  rw [f_Pi_draw, if_pos rfl, e1]
  simp only [Option.bind_some]
  rw [sh1 n (by omega), nm_def]
  obtain ⟨held', te', wi', ha', ta', nb', sp', h, e, g⟩ := draw_loop (F := F) (rows := rows) (dr := 0) (ha := ha) (fo := fo') hF hn hO hC hI hB hmk.1 F (2 ^ n) 0 0 held ta1 nb sp (by omega) (by omega) (fun k _ => ⟨fun _ f' q => by omega, fun _ => LZ_0 k⟩) (fun f' q => by omega) (fun f' _ q => hmk.2 f' (by omega)) (Or.inr rfl)
  exact ⟨held', te', wi', ha', fo', ta', nb', sp', h, e, g⟩
/-! finding a term -/
theorem signs_find {N f b0 : Nat} {g : Nat → Int} {c2 size3 : Int32} {ta numbers2 : Nat → Int32} {nb : Nat → Int64} {sp : Nat → Int32} {held : Int32} (hN8 : N ≤ 256) (hNR : ∀ s, s < N → nb s = Int64.ofInt (g s)) (hg : ∀ s, s < N → Sml (g s)) (hb : b0 < cnp g N) :
    ∀ (m d s : Nat), d < m → s + d = N → cnp g s ≤ b0 → ∃ s', b_Pi_find_78 F fo ta c2 keys numbers2 size3 back m (nI N) (nI (b0 - cnp g s)) (nI s) held 0 nb sp = some (held, nI s', nb, sp) ∧ s' < N ∧ g s' ≠ 0 ∧ cnp g s' = b0 := by
  intro m
  induction m with
  | zero => intro d s h1; omega
  | succ m ih =>
    intro d s h1 h2 h3
    have hcl := cnp_le g N
    rw [b_Pi_find_78, if_le (by omega) (by omega)]
    cases d with
    | zero =>
      have e : s = N := by omega
      subst e
      omega
    | succ d =>
      have hs : s < N := by omega
      rw [if_neg (by omega), ck_n (by omega) (by decide), nI_clamp (by omega), hNR s hs]
      by_cases h0 : g s = 0
      · rw [if_pos ((cmp_0 (hg s hs)).mpr h0), b_Pi_find_114, nm_def, nI_1]
        have := ih d (s + 1) (by omega) (by omega) (by simp only [cnp, if_pos h0]; omega)
        simp only [cnp, if_pos h0, Nat.add_zero] at this
        exact this
      · rw [if_neg (fun q => h0 ((cmp_0 (hg s hs)).mp q)), show (0 : Int32) = nI 0 from rfl, if_eqn (by omega) (by omega)]
        by_cases q : b0 - cnp g s = 0
        · rw [if_pos q]
          exact ⟨s, rfl, hs, h0, by omega⟩
        · rw [if_neg q, nm_def, b_Pi_find_114, nm_def, nI_1]
          obtain ⟨b1, hb1⟩ : ∃ b1, b0 - cnp g s = b1 + 1 := ⟨b0 - cnp g s - 1, by omega⟩
          have e : nI (b0 - cnp g s) + (-1) = nI b1 := by rw [m1, hb1, nI_pred]
          rw [e]
          have := ih d (s + 1) (by omega) (by omega) (by simp only [cnp, if_neg h0]; omega)
          simp only [cnp, if_neg h0] at this
          rw [show b0 - (cnp g s + 1) = b1 by omega] at this
          exact this
set_option maxHeartbeats 1000000 in
theorem find_loop {i : Nat} {held te wi ha fs : Int32} {ta : Nat → Int32} {nb : Nat → Int64} {sp : Nat → Int32} {h : Nat} (hF : 300 < F) (hn : n ≤ 8) (hO : SumOk n len K V) (hC : SumC (nI len) keys numbers len K V) (hI : Inv n R B) (hB : AR n back B) (hP : PicOk n len R B K V held te wi ha fo ta nb h) (hi : i < cum (2 ^ n) (Gm n B (Mat len K V)) (2 ^ n)) :
    ∀ (m d f : Nat), d < m → f + d + 1 = 2 ^ n → cum (2 ^ n) (Gm n B (Mat len K V)) f ≤ i →
      ∃ f' s' nb' sp', b_Pi_find_14 F fo ta (nI len) keys numbers (nI n) back m (nI (2 ^ n)) (nI (i - cum (2 ^ n) (Gm n B (Mat len K V)) f)) (nI f) held fs nb sp = some (nI f', nI s', nb', sp') ∧ f' < 2 ^ n ∧ s' < 2 ^ n ∧ Gm n B (Mat len K V) f' s' ≠ 0 ∧ idx (2 ^ n) (Gm n B (Mat len K V)) f' s' = i ∧ NR n nb' (Gm n B (Mat len K V) f') := by
  intro m
  induction m with
  | zero => intro d f h1; omega
  | succ m ih =>
    intro d f h1 h2 h3
    have h8 := n8 hn
    have hm := many_le (G := Gm n B (Mat len K V)) hn
    have hGs : ∀ f s, Sml (Gm n B (Mat len K V) f s) := fun f s => by have := Gm_bound (B := B) hn hO f s; constructor <;> omega
    have hf : f < 2 ^ n := by omega
    have stop : i < cum (2 ^ n) (Gm n B (Mat len K V)) (f + 1) → ∃ f' s' nb' sp', b_Pi_find_53 F fo ta (nI len) keys numbers (nI n) back (nI (2 ^ n)) (nI (i - cum (2 ^ n) (Gm n B (Mat len K V)) f)) (nI f) held fs nb sp = some (nI f', nI s', nb', sp') ∧ f' < 2 ^ n ∧ s' < 2 ^ n ∧ Gm n B (Mat len K V) f' s' ≠ 0 ∧ idx (2 ^ n) (Gm n B (Mat len K V)) f' s' = i ∧ NR n nb' (Gm n B (Mat len K V) f') := fun hlt => by
      simp only [cum] at hlt
      have fin : ∀ (nb1 : Nat → Int64) (sp1 : Nat → Int32), NR n nb1 (Gm n B (Mat len K V) f) → ∃ f' s' nb' sp', b_Pi_find_70 F fo ta (nI len) keys numbers (nI n) back (nI (2 ^ n)) (nI (i - cum (2 ^ n) (Gm n B (Mat len K V)) f)) (nI f) fs nb1 sp1 = some (nI f', nI s', nb', sp') ∧ f' < 2 ^ n ∧ s' < 2 ^ n ∧ Gm n B (Mat len K V) f' s' ≠ 0 ∧ idx (2 ^ n) (Gm n B (Mat len K V)) f' s' = i ∧ NR n nb' (Gm n B (Mat len K V) f') := fun nb1 sp1 hN => by
        obtain ⟨s', e, g1, g2, g3⟩ := signs_find (F := F) (fo := fo) (ta := ta) (c2 := nI len) (keys := keys) (numbers2 := numbers) (size3 := nI n) (back := back) (sp := sp1) (held := nI f) (f := f) h8 hN (fun s _ => hGs f s) (show i - cum (2 ^ n) (Gm n B (Mat len K V)) f < cnp (Gm n B (Mat len K V) f) (2 ^ n) by omega) F (2 ^ n) 0 (by omega) (by omega) (Nat.zero_le _)
        exact ⟨f, s', nb1, sp1, e, hf, g1, g2, by show cum _ _ f + cnp _ s' = i; rw [g3]; omega, hN⟩
      rw [b_Pi_find_53]
      rcases hP.2.2.2.2.2.2.2.2 with ⟨f0, hf0, rfl, hN0⟩ | hc
      · rw [if_eqn (by omega) (by omega)]
        by_cases q : f = f0
        · subst q
          rw [if_pos rfl]
          exact fin nb sp hN0
        · rw [if_neg q]
          obtain ⟨nb', sp', e2, hN⟩ := hold_all (F := F) (held := nI f0) (numbers2 := numbers) hF hn hO hC hI hB hf hP.2.2.2.2.2.2.2.1 nb sp
          rw [e2]
          simp only [Option.bind_some]
          exact fin nb' sp' hN
      · omega
    have e1 : nI (2 ^ n) - 1 = nI (2 ^ n - 1) := by
      obtain ⟨k, hk⟩ : ∃ k, 2 ^ n = k + 1 := ⟨2 ^ n - 1, by omega⟩
      rw [hk, nI_pred]; rfl
    rw [b_Pi_find_14, e1, if_le (by omega) (by omega)]
    cases d with
    | zero =>
      rw [if_pos (by omega)]
      exact stop (by rw [show f + 1 = 2 ^ n by omega]; exact hi)
    | succ d =>
      have hta := hP.2.2.2.2.2.2.1 f hf
      have hcl := cnp_le (Gm n B (Mat len K V) f) (2 ^ n)
      rw [if_neg (by omega), ck_n (by omega) (by decide), nI_clamp (by omega), hta, if_lt (by omega) (by omega)]
      by_cases q : i - cum (2 ^ n) (Gm n B (Mat len K V)) f < cnp (Gm n B (Mat len K V) f) (2 ^ n)
      · rw [if_pos q]
        exact stop (by simp only [cum]; omega)
      · rw [if_neg q, ck_n (by omega) (by decide), pk_sub (by omega), nm_def, nm_def, nI_1]
        have := ih d (f + 1) (by omega) (by omega) (by simp only [cum]; omega)
        simp only [cum] at this
        rw [← Nat.sub_sub] at this
        exact this
theorem find_all {i : Nat} {held te wi ha fs : Int32} {ta : Nat → Int32} {nb : Nat → Int64} {sp : Nat → Int32} {h : Nat} (hF : 300 < F) (hn : n ≤ 8) (hO : SumOk n len K V) (hC : SumC (nI len) keys numbers len K V) (hI : Inv n R B) (hB : AR n back B) (hP : PicOk n len R B K V held te wi ha fo ta nb h) (hi : i < cum (2 ^ n) (Gm n B (Mat len K V)) (2 ^ n)) :
    ∃ f' s' nb' sp', f_Pi_find F held fs fo ta nb sp (nI len) keys numbers (nI n) back (nI i) = some (nI f', nI s', nb', sp') ∧ f' < 2 ^ n ∧ s' < 2 ^ n ∧ Gm n B (Mat len K V) f' s' ≠ 0 ∧ idx (2 ^ n) (Gm n B (Mat len K V)) f' s' = i ∧ NR n nb' (Gm n B (Mat len K V) f') := by
  have h8 := n8 hn
  have hp := Nat.two_pow_pos n
  rw [f_Pi_find, sh1 n (by omega), nm_def]
  exact find_loop hF hn hO hC hI hB hP hi F (2 ^ n - 1) 0 (by omega) (by omega) (Nat.zero_le _)
end
