/-! the model's matrix -/
def MX (n : Nat) (mx : Nat → Int64) (f : Nat → Nat → Int) : Prop := ∀ t, t < 2 ^ n → ∀ s, s < 2 ^ n → mx (256 * t + s) = Int64.ofInt (f t s)
theorem ofs (a b : Nat) : (256 : Int32) * nI a + nI b = nI (256 * a + b) := by rw [show (256 : Int32) = nI 256 from rfl, pk_mul, nI_add]
theorem MX.upd {n : Nat} {mx : Nat → Int64} {f : Nat → Nat → Int} (hn : n ≤ 8) (h : MX n mx f) {a b : Nat} (hb : b < 2 ^ n) (v : Int) : MX n (vp_updL mx (256 * a + b) (Int64.ofInt v)) (fun t s => if t = a ∧ s = b then v else f t s) := fun t ht s hs => by
  have h8 := n8 hn
  show _ = Int64.ofInt (if t = a ∧ s = b then v else f t s)
  by_cases e : t = a ∧ s = b
  · rw [if_pos e, e.1, e.2, updL_at]
  · rw [if_neg e, updL_ne (by omega)]; exact h t ht s hs
theorem MX.cong {n : Nat} {mx : Nat → Int64} {f g : Nat → Nat → Int} (h : MX n mx f) (e : ∀ t, t < 2 ^ n → ∀ s, s < 2 ^ n → f t s = g t s) : MX n mx g := fun t ht s hs => by rw [h t ht s hs, e t ht s hs]
section
variable {F n0 len : Nat} {K : Nat → Nat} {V : Nat → Int} {ups downs : Nat → Int32} {num : Nat → Int64} {pr : Int32}
theorem zero_in {k2 : Int32 → Int32 → Int32 → (Nat → Int64) → Option (Int32 × Int32 × (Nat → Int64))} {t : Nat} {a b : Int32} (hn : n0 ≤ 8) (ht : t < 2 ^ n0) :
    ∀ (f d s : Nat) (mx : Nat → Int64), d < f → s + d = 2 ^ n0 → (∀ t', t' < t → ∀ s', s' < 2 ^ n0 → mx (256 * t' + s') = 0) → (∀ s', s' < s → mx (256 * t + s') = 0) →
      ∃ mx', b_Mo_fillMatrix_12 F k2 (nI n0) pr ups downs num f (nI t) (nI s) a b mx = k2 (nI (t + 1)) a b mx' ∧ ∀ t', t' < t + 1 → ∀ s', s' < 2 ^ n0 → mx' (256 * t' + s') = 0 := by
  intro f
  induction f with
  | zero => intro d s mx h1; omega
  | succ f ih =>
    intro d s mx h1 h2 h3 h4
    have h8 := n8 hn
    rw [b_Mo_fillMatrix_12, states_all hn]
    simp only [Option.bind_some]
    rw [if_le (by omega) (by omega)]
    cases d with
    | zero =>
      rw [if_pos (by omega), nm_def, nI_1]
      refine ⟨mx, rfl, fun t' q1 s' q2 => ?_⟩
      by_cases e : t' = t
      · rw [e]; exact h4 s' (by omega)
      · exact h3 t' (by omega) s' q2
    | succ d =>
      rw [if_neg (by omega), ofs, ck_n (by omega) (by decide), nm_def, nI_clamp (by omega), nI_1]
      refine ih d (s + 1) _ (by omega) (by omega) (fun t' q1 s' q2 => ?_) (fun s' q => ?_)
      · rw [updL_ne (by omega)]; exact h3 t' q1 s' q2
      · by_cases e : s' = s
        · rw [e, updL_at]
        · rw [updL_ne (by omega)]; exact h4 s' (by omega)
theorem zero_out {a b : Int32} (hF : 300 < F) (hn : n0 ≤ 8) :
    ∀ (f d t : Nat) (mx : Nat → Int64), d < f → t + d = 2 ^ n0 → (∀ t', t' < t → ∀ s', s' < 2 ^ n0 → mx (256 * t' + s') = 0) →
      ∃ mx', b_Mo_fillMatrix_2 F (nI n0) pr ups downs num f (nI t) a b mx = b_Mo_fillMatrix_47 F (nI n0) pr ups downs num F 0 a b mx' ∧ ∀ t', t' < 2 ^ n0 → ∀ s', s' < 2 ^ n0 → mx' (256 * t' + s') = 0 := by
  intro f
  induction f with
  | zero => intro d s mx h1; omega
  | succ f ih =>
    intro d t mx h1 h2 h3
    have h8 := n8 hn
    rw [b_Mo_fillMatrix_2, states_all hn]
    simp only [Option.bind_some]
    rw [if_le (by omega) (by omega)]
    cases d with
    | zero => rw [if_pos (by omega)]; exact ⟨mx, rfl, fun t' q1 => h3 t' (by omega)⟩
    | succ d =>
      rw [if_neg (by omega)]
      obtain ⟨mx', e, h⟩ := zero_in (F := F) (pr := pr) (ups := ups) (downs := downs) (num := num) (k2 := b_Mo_fillMatrix_2 F (nI n0) pr ups downs num f) (a := a) (b := b) hn (show t < 2 ^ n0 by omega) F (2 ^ n0) 0 mx (by omega) (by omega) h3 (fun s' q => by omega)
      have e' : b_Mo_fillMatrix_12 F (b_Mo_fillMatrix_2 F (nI n0) pr ups downs num f) (nI n0) pr ups downs num F (nI t) 0 a b mx = b_Mo_fillMatrix_2 F (nI n0) pr ups downs num f (nI (t + 1)) a b mx' := e
      rw [e']
      exact ih d (t + 1) mx' (by omega) (by omega) h
theorem sg_mul (g : Bool) (v : Int) : (sgI g).toInt64 * Int64.ofInt v = Int64.ofInt (sgZ g v) := by
  rw [sg64, ← Int64.ofInt_mul]; cases g <;> simp [sgZ]
theorem amp_one {U D s t : Nat} {v : Int} (ha : acts U D s = true) : amp U D s t v = if s ^^^ D ^^^ U = t then sgZ (sgn U D s) v else 0 := by
  rw [amp]
  by_cases e : s ^^^ D ^^^ U = t
  · rw [if_pos ⟨ha, e⟩, if_pos e]; rfl
  · rw [if_neg (fun q => e q.2), if_neg e]
theorem amp_none {U D s t : Nat} {v : Int} (ha : acts U D s = false) : amp U D s t v = 0 := by
  rw [amp, if_neg (fun q => by rw [ha] at q; exact absurd q.1 (by decide))]
set_option maxHeartbeats 1000000 in
theorem fill_in {k47 : Int32 → Int32 → Int32 → (Nat → Int64) → Option (Int32 × Int32 × (Nat → Int64))} {k : Nat} (hF : 9 ≤ F) (hn : n0 ≤ 8) (hO : SumOk n0 len K V) (hM : SumM (nI len) ups downs num len K V) (hk : k < len) :
    ∀ (f d s : Nat) (a b : Int32) (mx : Nat → Int64), d < f → s + d = 2 ^ n0 → MX n0 mx (fun t s' => sumZ k (fun i => amp (K i / 256) (K i % 256) s' t (V i)) + if s' < s then amp (K k / 256) (K k % 256) s' t (V k) else 0) →
      ∃ a' b' mx', b_Mo_fillMatrix_57 F k47 (nI n0) (nI len) ups downs num f (nI k) (nI s) a b mx = k47 (nI (k + 1)) a' b' mx' ∧ MX n0 mx' (fun t s' => sumZ (k + 1) (fun i => amp (K i / 256) (K i % 256) s' t (V i))) := by
  intro f
  induction f with
  | zero => intro d s a b mx h1; omega
  | succ f ih =>
    intro d s a b mx h1 h2 hX
    have h8 := n8 hn
    have hl := hO.1
    rw [b_Mo_fillMatrix_57, states_all hn]
    simp only [Option.bind_some]
    rw [if_le (by omega) (by omega)]
    cases d with
    | zero =>
      rw [if_pos (by omega), nm_def, nI_1]
      refine ⟨a, b, mx, rfl, hX.cong (fun t ht s' hs' => ?_)⟩
      rw [if_pos (by omega)]; rfl
    | succ d =>
      obtain ⟨k1, k2, k3⟩ := hO.key hn hk
      obtain ⟨g1, g2, g3⟩ := hM.2 k hk
      have hV := hO.2.2 k hk
      rw [if_neg (by omega), ck_n (by omega) (by decide), ck_n (by omega) (by decide), nI_clamp (by omega), g1, g2]
      obtain ⟨t1, g, em, hm⟩ := make_all (F := F) (a := a) (b := b) hF k2 k3 (show s < 256 by omega)
      rw [em]
      simp only [Option.bind_some]
      cases ha : acts (K k / 256) (K k % 256) s with
      | true =>
        obtain ⟨e1, e2⟩ := hm ha
        subst e1; subst e2
        have htl : s ^^^ K k % 256 ^^^ K k / 256 < 2 ^ n0 := Nat.xor_lt_two_pow (Nat.xor_lt_two_pow (by omega) hV.2.2.2.2) hV.2.2.2.1
        rw [if_neg (by decide), ofs, nm_def, ck_n (by omega) (by decide), ck_n (by omega) (by decide), nm_def, ck_n (by omega) (by decide), nI_clamp (by omega), g3, sg_mul, hX _ htl s (by omega), ← Int64.ofInt_add, b_Mo_fillMatrix_115, nm_def, nI_1]
        refine ih d (s + 1) _ _ _ (by omega) (by omega) ((hX.upd hn (show s < 2 ^ n0 by omega) _).cong (fun t ht s' hs' => ?_))
        dsimp only
        by_cases e : t = s ^^^ K k % 256 ^^^ K k / 256 ∧ s' = s
        · rw [if_pos e, e.2, if_neg (by omega), if_pos (by omega), ← e.1, amp_one ha, if_pos e.1.symm, Int.add_zero]
        · rw [if_neg e]
          by_cases e2 : s' = s
          · rw [e2, if_neg (by omega), if_pos (by omega), amp_one ha, if_neg (fun q => e ⟨q.symm, e2⟩)]
          · by_cases e3 : s' < s
            · rw [if_pos e3, if_pos (by omega)]
            · rw [if_neg e3, if_neg (by omega)]
      | false =>
        rw [if_pos (by decide), b_Mo_fillMatrix_115, nm_def, nI_1]
        refine ih d (s + 1) _ _ _ (by omega) (by omega) (hX.cong (fun t ht s' hs' => ?_))
        by_cases e2 : s' = s
        · rw [e2, if_neg (by omega), if_pos (by omega), amp_none ha]
        · by_cases e3 : s' < s
          · rw [if_pos e3, if_pos (by omega)]
          · rw [if_neg e3, if_neg (by omega)]
theorem fill_out (hF : 300 < F) (hn : n0 ≤ 8) (hO : SumOk n0 len K V) (hM : SumM (nI len) ups downs num len K V) :
    ∀ (f d k : Nat) (a b : Int32) (mx : Nat → Int64), d < f → k + d = len → MX n0 mx (fun t s' => sumZ k (fun i => amp (K i / 256) (K i % 256) s' t (V i))) →
      ∃ a' b' mx', b_Mo_fillMatrix_47 F (nI n0) (nI len) ups downs num f (nI k) a b mx = some (a', b', mx') ∧ MX n0 mx' (Mat len K V) := by
  intro f
  induction f with
  | zero => intro d k a b mx h1; omega
  | succ f ih =>
    intro d k a b mx h1 h2 hX
    have h8 := n8 hn
    have hl := hO.1
    rw [b_Mo_fillMatrix_47, if_le (by omega) (by omega)]
    cases d with
    | zero => rw [if_pos (by omega)]; rw [show k = len by omega] at hX; exact ⟨a, b, mx, rfl, hX⟩
    | succ d =>
      rw [if_neg (by omega)]
      obtain ⟨a', b', mx', e, h⟩ := fill_in (F := F) (k47 := b_Mo_fillMatrix_47 F (nI n0) (nI len) ups downs num f) (by omega) hn hO hM (show k < len by omega) F (2 ^ n0) 0 a b mx (by omega) (by omega) (hX.cong (fun t _ s' _ => by rw [if_neg (by omega), Int.add_zero]))
      have e' : b_Mo_fillMatrix_57 F (b_Mo_fillMatrix_47 F (nI n0) (nI len) ups downs num f) (nI n0) (nI len) ups downs num F (nI k) 0 a b mx = b_Mo_fillMatrix_47 F (nI n0) (nI len) ups downs num f (nI (k + 1)) a' b' mx' := e
      rw [e']
      exact ih d (k + 1) a' b' mx' (by omega) (by omega) h
theorem fill_all (hF : 300 < F) (hn : n0 ≤ 8) (hO : SumOk n0 len K V) (hM : SumM (nI len) ups downs num len K V) (a b : Int32) (mx : Nat → Int64) :
    ∃ a' b' mx', f_Mo_fillMatrix F (nI n0) (nI len) a b ups downs num mx = some (a', b', mx') ∧ MX n0 mx' (Mat len K V) := by
  have h8 := n8 hn
  obtain ⟨mx1, e1, h1⟩ := zero_out (F := F) (pr := nI len) (ups := ups) (downs := downs) (num := num) (a := a) (b := b) hF hn F (2 ^ n0) 0 mx (by omega) (by omega) (fun t' q => by omega)
  obtain ⟨a', b', mx', e2, h2⟩ := fill_out hF hn hO hM F len 0 a b mx1 (by have := hO.1; omega) (by omega) (fun t ht s hs => by rw [h1 t ht s hs]; rfl)
  refine ⟨a', b', mx', ?_, h2⟩
  have e1' : f_Mo_fillMatrix F (nI n0) (nI len) a b ups downs num mx = b_Mo_fillMatrix_47 F (nI n0) (nI len) ups downs num F (nI 0) a b mx1 := e1
  rw [e1', e2]
end
