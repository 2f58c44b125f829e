/-! the program's ladder: two rows in order are merged -/
theorem seek_loop {F len bit wanted : Nat} {K : Nat → Nat} {V : Nat → Int} {keys numbers : Nat → Int32} (hC : SumC (nI len) keys numbers len K V) (hl : len ≤ 60) (hK : ∀ i, i < len → K i < 65536) (hw : wanted < 65536) :
    ∀ (f d q : Nat), d < f → q + d = len → ∃ q', b_Su_seek_3 F (nI len) keys f (nI bit) (nI wanted) (nI q) = some (nI q') ∧ q ≤ q' ∧ q' ≤ len ∧ (q' < len → K q' &&& bit = wanted) ∧ ∀ i, q ≤ i → i < q' → K i &&& bit ≠ wanted := by
  intro f
  induction f with
  | zero => intro d q h1; omega
  | succ f ih =>
    intro d q h1 h2
    rw [b_Su_seek_3, if_le (by omega) (by omega)]
    cases d with
    | zero => rw [if_pos (by omega)]; exact ⟨q, rfl, Nat.le_refl _, by omega, fun h => by omega, fun i a b => by omega⟩
    | succ d =>
      have := and_lt_l (b := bit) (hK q (by omega))
      rw [if_neg (by omega), ck_n (by omega) (by decide), nI_clamp (by omega), (hC.2 q (by omega)).1, nI_and, if_eqn (by omega) (by omega)]
      by_cases e : K q &&& bit = wanted
      · rw [if_pos e]; exact ⟨q, rfl, Nat.le_refl _, by omega, fun _ => e, fun i a b => by omega⟩
      · rw [if_neg e, nm_def, nI_1]
        obtain ⟨q', e1, a1, a2, a3, a4⟩ := ih d (q + 1) (by omega) (by omega)
        refine ⟨q', e1, by omega, a2, a3, fun i b1 b2 => ?_⟩
        by_cases q3 : i = q
        · rw [q3]; exact e
        · exact a4 i (by omega) b2
theorem sgZ_bound {g : Bool} {v C : Int} (h1 : -C ≤ v) (h2 : v ≤ C) : -C ≤ sgZ g v ∧ sgZ g v ≤ C := by
  cases g <;> simp [sgZ] <;> omega
theorem signed_all {F n0 len i p : Nat} {K : Nat → Nat} {V : Nat → Int} {keys numbers : Nat → Int32} (hn : n0 ≤ 8) (hO : SumOk n0 len K V) (hC : SumC (nI len) keys numbers len K V) (hi : i < len) : f_Su_signed F keys numbers (nI i) (nI p) = some (Int32.ofInt (sgZ (od (K i &&& p)) (V i))) := by
  have hl := hO.1
  obtain ⟨k1, k2, k3⟩ := hO.key hn hi
  rw [f_Su_signed, ck_n (by omega) (by decide), nI_clamp (by omega), (hC.2 i hi).1, nI_and, isOdd_all (and_lt_l k1)]
  simp only [Option.bind_some]
  rw [ck_n (by omega) (by decide), ck_n (by omega) (by decide), (hC.2 i hi).2]
  cases h : od (K i &&& p)
  · rw [if_pos (by decide)]; rfl
  · rw [if_neg (by decide), neg_iI]; rfl
def FI (len : Nat) (P : Nat → Prop) (key : Nat → Nat) (q b : Nat) : Prop := q ≤ len ∧ (q < len → P q ∧ b ≤ key q) ∧ ∀ i, i < q → P i → key i < b
theorem FI.next {len q q' b : Nat} {P : Nat → Prop} {key : Nat → Nat} (hmono : ∀ i j, i < j → j < len → P i → P j → key i < key j) (h : FI len P key q b) (hq : q < len) (h1 : q + 1 ≤ q') (h2 : q' ≤ len) (h3 : q' < len → P q') (h4 : ∀ i, q + 1 ≤ i → i < q' → ¬ P i) : FI len P key q' (key q + 1) := by
  obtain ⟨a1, a2⟩ := h.2.1 hq
  refine ⟨h2, fun hlt => ⟨h3 hlt, ?_⟩, fun i hi hp => ?_⟩
  · have := hmono q q' (by omega) hlt a1 (h3 hlt); omega
  · rcases Nat.lt_or_ge i q with c | c
    · have := h.2.2 i c hp; omega
    · by_cases e : i = q
      · rw [e]; omega
      · exact absurd hp (h4 i (by omega) hi)
theorem FI.stay {len q b b' : Nat} {P : Nat → Prop} {key : Nat → Nat} (h : FI len P key q b) (hb : b ≤ b') (h2 : q < len → b' ≤ key q) : FI len P key q b' :=
  ⟨h.1, fun hq => ⟨(h.2.1 hq).1, h2 hq⟩, fun i hi hp => by have := h.2.2 i hi hp; omega⟩
theorem part_at {len q b x : Nat} {P : Nat → Prop} [DecidablePred P] {key : Nat → Nat} {v : Nat → Int} (hmono : ∀ i j, i < j → j < len → P i → P j → key i < key j) (h : FI len P key q b) (hb : b ≤ x) (hx : q < len → x ≤ key q) : sumZ len (fun i => if P i ∧ key i = x then v i else 0) = if q < len ∧ key q = x then v q else 0 := by
  by_cases hq : q < len
  · obtain ⟨a1, a2⟩ := h.2.1 hq
    rw [sumZ_one hq (fun i hi hne => ?_)]
    · by_cases e : key q = x
      · rw [if_pos ⟨a1, e⟩, if_pos ⟨hq, e⟩]
      · rw [if_neg (fun c => e c.2), if_neg (fun c => e c.2)]
    · rw [if_neg]
      rintro ⟨c1, c2⟩
      rcases Nat.lt_or_ge i q with c | c
      · have := h.2.2 i c c1; omega
      · have := hmono q i (by omega) hi a1 c1
        have := hx hq; omega
  · rw [if_neg (fun c => hq c.1), sumZ_zero (fun i hi => ?_)]
    rw [if_neg]
    rintro ⟨c1, c2⟩
    have := h.2.2 i (by have := h.1; omega) c1; omega
theorem SumC.push {m : Nat} {sk sn : Nat → Int32} {K : Nat → Nat} {V : Nat → Int} {c : Int32} (h : SumC c sk sn m K V) (x : Nat) (v : Int) : SumC (nI (m + 1)) (upd sk m (nI x)) (upd sn m (Int32.ofInt v)) (m + 1) (updF K m x) (updF V m v) := by
  refine ⟨rfl, fun i hi => ?_⟩
  by_cases e : i = m
  · subst e; rw [upd_at, upd_at, updF_at, updF_at]; exact ⟨rfl, rfl⟩
  · rw [upd_ne e, upd_ne e, updF_ne e, updF_ne e]; exact h.2 i (by omega)
theorem add_lt_pow : ∀ (n a b : Nat), a < 2 ^ n → b < 2 ^ n → a &&& b = 0 → a + b < 2 ^ n := by
  intro n
  induction n with
  | zero => intro a b h1 h2 _; omega
  | succ n ih =>
    intro a b h1 h2 h3
    have e2 : 2 ^ (n + 1) = 2 * 2 ^ n := by rw [Nat.pow_succ, Nat.mul_comm]
    have h4 : a / 2 &&& b / 2 = 0 := by rw [← Nat.and_div_two, h3]
    have h5 := ih (a / 2) (b / 2) (by omega) (by omega) h4
    have h6 : a % 2 = 0 ∨ b % 2 = 0 := by
      have t : (a &&& b).testBit 0 = false := by rw [h3]; rfl
      rw [Nat.testBit_and, Nat.testBit_zero, Nat.testBit_zero] at t
      rcases Nat.mod_two_eq_zero_or_one a with q | q
      · exact Or.inl q
      · rcases Nat.mod_two_eq_zero_or_one b with r | r
        · exact Or.inr r
        · rw [q, r] at t; exact absurd t (by decide)
    omega
abbrev MR := Option (Int32 × Int32 × (Nat → Int32) × (Nat → Int32) × (Nat → Int32) × (Nat → Int32))
def MRes (len : Nat) (keys numbers : Nat → Int32) (c : Nat → Int) (r : MR) : Prop :=
  (∃ m K' V' k' n' sk sn, r = some (1, nI m, k', n', sk, sn) ∧ SumC (nI m) k' n' m K' V' ∧ Scan c 131072 m K' V') ∨ ((∃ sk sn, r = some (0, nI len, keys, numbers, sk, sn)) ∧ ¬ ∃ m K' V', Scan c 131072 m K' V')
section
variable {F n0 len jb jp mb mp : Nat} {mf : Bool} {K : Nat → Nat} {V : Nat → Int} {keys numbers : Nat → Int32}
abbrev JP (jb : Nat) (K : Nat → Nat) (i : Nat) : Prop := K i &&& jb = 0
abbrev MP (mb : Nat) (mf : Bool) (K : Nat → Nat) (i : Nat) : Prop := mf = true ∧ K i &&& mb = mb
theorem mono_j (hO : SumOk n0 len K V) : ∀ i j, i < j → j < len → JP jb K i → JP jb K j → K i + jb < K j + jb := fun i j h1 h2 _ _ => by have := hO.2.1 i j h1 h2; omega
theorem mono_m (hO : SumOk n0 len K V) : ∀ i j, i < j → j < len → MP mb mf K i → MP mb mf K j → K i - mb < K j - mb := fun i j h1 h2 a b => by
  have := hO.2.1 i j h1 h2
  have : mb ≤ K i := by have := Nat.and_le_left (n := K i) (m := mb); rw [a.2] at this; exact this
  omega
theorem cl_at (hO : SumOk n0 len K V) {jq mq b x : Nat} (hJ : FI len (JP jb K) (fun i => K i + jb) jq b) (hM : FI len (MP mb mf K) (fun i => K i - mb) mq b) (hb : b ≤ x) (hj : jq < len → x ≤ K jq + jb) (hm : mq < len → x ≤ K mq - mb) :
    cl jb jp mb mp mf len K V x = (if jq < len ∧ K jq + jb = x then sgZ (od (K jq &&& jp)) (V jq) else 0) + if mq < len ∧ K mq - mb = x then sgZ (od (K mq &&& mp)) (V mq) else 0 := by
  rw [cl, sumZ_add]
  have e1 := part_at (v := fun i => sgZ (od (K i &&& jp)) (V i)) (mono_j hO) hJ hb hj
  have e2 := part_at (v := fun i => sgZ (od (K i &&& mp)) (V i)) (mono_m hO) hM hb hm
  rw [e1]
  have e3 : sumZ len (fun i => if mf = true ∧ K i &&& mb = mb ∧ K i - mb = x then sgZ (od (K i &&& mp)) (V i) else 0) = sumZ len (fun i => if MP mb mf K i ∧ K i - mb = x then sgZ (od (K i &&& mp)) (V i) else 0) := by
    apply sumZ_cong
    intro i _
    by_cases c : mf = true ∧ K i &&& mb = mb ∧ K i - mb = x
    · rw [if_pos c, if_pos ⟨⟨c.1, c.2.1⟩, c.2.2⟩]
    · rw [if_neg c, if_neg (fun d => c ⟨d.1.1, d.1.2, d.2⟩)]
  rw [e3, e2]
set_option maxHeartbeats 2000000 in
theorem merge_loop (hF : 100 < F) (hn : n0 ≤ 8) (hO : SumOk n0 len K V) (hC : SumC (nI len) keys numbers len K V) (hjb : jb < 65536) (hmb : mb < 65536) :
    ∀ (f step m jq mq b : Nat) (K' : Nat → Nat) (V' : Nat → Int) (sk sn : Nat → Int32), 121 < f + step → step ≤ 120 → step ≤ jq + mq → b ≤ 131072 → FI len (JP jb K) (fun i => K i + jb) jq b → FI len (MP mb mf K) (fun i => K i - mb) mq b → SumC (nI m) sk sn m K' V' → Scan (cl jb jp mb mp mf len K V) b m K' V' →
      MRes len keys numbers (cl jb jp mb mp mf len K V) (b_Su_merge_35 F f (nI jb) (nI jp) (nI mb) (nI mp) (nI m) (nI jq) (nI mq) (nI step) (nI len) keys numbers sk sn) := by
  intro f
  induction f with
  | zero => intro step m jq mq b K' V' sk sn h1; omega
  | succ f ih =>
    intro step m jq mq b K' V' sk sn h1 h2 h3 hb hJ hM hS hsc
    have hl := hO.1
    have hK : ∀ i, i < len → K i < 65536 := fun i hi => (hO.key hn hi).1
    have done : jq = len → mq = len → MRes len keys numbers (cl jb jp mb mp mf len K V) (b_Su_merge_237 F (nI m) (nI len) keys numbers sk sn) := fun q1 q2 => by
      refine Or.inl ⟨m, K', V', sk, sn, keys, numbers, rfl, hS, hsc.skip hb (fun x c1 c2 => ?_)⟩
      rw [cl_at hO hJ hM c1 (fun q => by omega) (fun q => by omega), if_neg (fun q => by omega), if_neg (fun q => by omega)]; rfl
    have hj0 := hJ.1
    have hm0 := hM.1
    rw [b_Su_merge_35, show (120 : Int32) = nI 120 from rfl, if_le (by omega) (by omega)]
    by_cases h120 : 120 ≤ step
    · rw [if_pos h120]; exact done (by omega) (by omega)
    · rw [if_neg h120, if_lt (by omega) (by omega), if_lt (by omega) (by omega)]
      by_cases hend : jq < len ∨ mq < len
      · have e0 : ∀ (X Y : MR), (if jq < len then X else if mq < len then X else Y) = X := fun X Y => by
          by_cases q : jq < len
          · rw [if_pos q]
          · rw [if_neg q, if_pos (by omega)]
        rw [e0]
        -- the two candidates
        obtain ⟨jv, hjv⟩ : ∃ jv, jv = if jq < len then K jq + jb else 65536 := ⟨_, rfl⟩
        obtain ⟨mv, hmv⟩ : ∃ mv, mv = if mq < len then K mq - mb else 65536 := ⟨_, rfl⟩
        have hjv1 : jq < len → jv = K jq + jb ∧ jv < 65536 := fun q => by
          rw [hjv, if_pos q]; exact ⟨rfl, add_lt_pow 16 (K jq) jb (hK jq q) hjb (hJ.2.1 q).1⟩
        have hmv1 : mq < len → mv = K mq - mb ∧ mv < 65536 := fun q => by
          rw [hmv, if_pos q]; have := hK mq q; omega
        have hjv2 : ¬ jq < len → jv = 65536 := fun q => by rw [hjv, if_neg q]
        have hmv2 : ¬ mq < len → mv = 65536 := fun q => by rw [hmv, if_neg q]
        have hjv3 : jv < 2 ^ 31 := by by_cases q : jq < len; have := hjv1 q; omega; have := hjv2 q; omega
        have hmv3 : mv < 2 ^ 31 := by by_cases q : mq < len; have := hmv1 q; omega; have := hmv2 q; omega
        have ea : b_Su_merge_63 F (b_Su_merge_35 F f) (nI jb) (nI jp) (nI mb) (nI mp) (nI m) (nI jq) (nI mq) (nI step) (nI len) keys numbers sk sn = b_Su_merge_86 F (b_Su_merge_35 F f) (nI jb) (nI jp) (nI mb) (nI mp) (nI m) (nI jq) (nI mq) (nI step) (nI jv) (nI len) keys numbers sk sn := by
          rw [b_Su_merge_63, if_le (by omega) (by omega)]
          by_cases q : jq < len
          · rw [if_neg (by omega), ck_n (by omega) (by decide), nI_clamp (by omega), (hC.2 jq q).1, nI_add, (hjv1 q).1]
          · rw [if_pos (by omega), hjv2 q]; rfl
        have eb : b_Su_merge_86 F (b_Su_merge_35 F f) (nI jb) (nI jp) (nI mb) (nI mp) (nI m) (nI jq) (nI mq) (nI step) (nI jv) (nI len) keys numbers sk sn = b_Su_merge_111 F (b_Su_merge_35 F f) (nI jb) (nI jp) (nI mb) (nI mp) (nI m) (nI jq) (nI mq) (nI step) (nI jv) (nI mv) (nI len) keys numbers sk sn := by
          rw [b_Su_merge_86, if_le (by omega) (by omega)]
          by_cases q : mq < len
          · have hle : mb ≤ K mq := by
              have a := (hM.2.1 q).1.2
              have := Nat.and_le_left (n := K mq) (m := mb); rw [a] at this; exact this
            have e5 : nI (K mq) - nI mb = nI (K mq - mb) := by
              obtain ⟨d, hd⟩ : ∃ d, K mq = d + mb := ⟨K mq - mb, by omega⟩
              rw [hd, ← nI_add, Int32.add_sub_cancel, Nat.add_sub_cancel]
            rw [if_neg (by omega), ck_n (by omega) (by decide), nI_clamp (by omega), (hC.2 mq q).1, e5, (hmv1 q).1]
          · rw [if_pos (by omega), hmv2 q]; rfl
        rw [ea, eb]
        obtain ⟨key, hkey⟩ : ∃ key, key = if mv < jv then mv else jv := ⟨_, rfl⟩
        have hk1 : key ≤ jv ∧ key ≤ mv ∧ (key = jv ∨ key = mv) := by
          by_cases q : mv < jv
          · rw [if_pos q] at hkey; omega
          · rw [if_neg q] at hkey; omega
        have hk2' : key < 65536 := by
          rcases hend with q | q
          · have := hjv1 q; omega
          · have := hmv1 q; omega
        have hk2 : key < 131072 := by omega
        have hkb : b ≤ key := by
          rcases hk1.2.2 with q | q
          · by_cases c : jq < len
            · have := (hJ.2.1 c).2; have := hjv1 c; dsimp only at *; omega
            · have := hjv2 c; omega
          · by_cases c : mq < len
            · have := (hM.2.1 c).2; have := hmv1 c; dsimp only at *; omega
            · have := hmv2 c; omega
        have hcl := cl_at (jp := jp) (mp := mp) hO hJ hM hkb (fun q => by have := (hjv1 q).1; omega) (fun q => by have := (hmv1 q).1; omega)
        have hsc1 : Scan (cl jb jp mb mp mf len K V) key m K' V' := hsc.skip hkb (fun x c1 c2 => by
          rw [cl_at hO hJ hM c1 (fun q => by have := (hjv1 q).1; omega) (fun q => by have := (hmv1 q).1; omega), if_neg (fun q => by have := (hjv1 q.1).1; omega), if_neg (fun q => by have := (hmv1 q.1).1; omega)]; rfl)
        have hfin : ∀ (jq' mq' : Nat) (w : Int), FI len (JP jb K) (fun i => K i + jb) jq' (key + 1) → FI len (MP mb mf K) (fun i => K i - mb) mq' (key + 1) → step + 1 ≤ jq' + mq' → w = cl jb jp mb mp mf len K V key → -2000000 ≤ w → w ≤ 2000000 →
            MRes len keys numbers (cl jb jp mb mp mf len K V) (b_Su_merge_188 F (b_Su_merge_35 F f) (nI jb) (nI jp) (nI mb) (nI mp) (nI m) (nI jq') (nI mq') (nI step) (nI key) (Int32.ofInt w) (nI len) keys numbers sk sn) := fun jq' mq' w f1 f2 f3 hw w1 w2 => by
          have hm60 := hsc.1
          rw [b_Su_merge_188]
          by_cases h0 : w = 0
          · rw [if_pos ((iI_zero (by omega) (by omega)).mpr h0), b_Su_merge_231, nm_def, nI_1]
            exact ih (step + 1) m jq' mq' (key + 1) K' V' sk sn (by omega) (by omega) f3 (by omega) f1 f2 hS (hsc1.skip (by omega) (fun x c1 c2 => by rw [show x = key by omega, ← hw, h0]))
          · rw [if_neg (fun q => h0 ((iI_zero (by omega) (by omega)).mp q)), show (60 : Int32) = nI 60 from rfl, if_le (by omega) (by omega)]
            by_cases hm : 60 ≤ m
            · rw [if_pos hm]
              exact Or.inr ⟨⟨_, _, rfl⟩, hsc1.fail (by rw [← hw]; exact h0) (Or.inl (by omega)) hk2⟩
            · rw [if_neg hm, beyond_iI (by omega) (by omega)]
              simp only [Option.bind_some]
              by_cases hbe : Bey w
              · rw [if_neg (fun q => b2_dec.mp q hbe)]
                exact Or.inr ⟨⟨_, _, rfl⟩, hsc1.fail (by rw [← hw]; exact h0) (Or.inr (by rw [← hw]; exact hbe)) hk2⟩
              · rw [if_pos (b2_dec.mpr hbe), ck_n (by omega) (by decide), ck_n (by omega) (by decide), nm_def, nI_clamp (by omega), nI_1, b_Su_merge_231, nm_def, nI_1]
                refine ih (step + 1) (m + 1) jq' mq' (key + 1) (updF K' m key) (updF V' m w) _ _ (by omega) (by omega) f3 (by omega) f1 f2 (hS.push key w) ?_
                rw [hw]
                exact hsc1.push (by rw [← hw]; exact h0) (by rw [← hw]; exact hbe) (by omega)
        -- the meeting one
        have hmeet : ∀ (jq' : Nat) (w : Int), FI len (JP jb K) (fun i => K i + jb) jq' (key + 1) → jq ≤ jq' → (jv = key → jq + 1 ≤ jq') → w = (if jq < len ∧ K jq + jb = key then sgZ (od (K jq &&& jp)) (V jq) else 0) → -1000000 ≤ w → w ≤ 1000000 →
            MRes len keys numbers (cl jb jp mb mp mf len K V) (b_Su_merge_156 F (b_Su_merge_35 F f) (nI jb) (nI jp) (nI mb) (nI mp) (nI m) (nI jq') (nI mq) (nI step) (nI mv) (nI key) (Int32.ofInt w) (nI len) keys numbers sk sn) := fun jq' w f1 f2 f3 hw w1 w2 => by
          rw [b_Su_merge_156, if_eqn hmv3 (by omega)]
          by_cases q : mv = key
          · have hml : mq < len := by
              rcases Nat.lt_or_ge mq len with c | c
              · exact c
              · have := hmv2 (by omega); omega
            have hVm := hO.2.2 mq hml
            rw [if_pos q, signed_all hn hO hC hml]
            simp only [Option.bind_some]
            rw [nm_def, ← Int32.ofInt_add, nI_1]
            have hsk := seek_loop (F := F) (bit := mb) (wanted := mb) hC hl hK hmb F (len - (mq + 1)) (mq + 1) (by omega) (by omega)
            obtain ⟨mq', e1, g1, g2, g3, g4⟩ := hsk
            rw [f_Su_seek, e1]
            simp only [Option.bind_some]
            have hmf := (hM.2.1 hml).1.1
            have hb2 := sgZ_bound (g := od (K mq &&& mp)) hVm.2.1 hVm.2.2.1
            have f2' : FI len (MP mb mf K) (fun i => K i - mb) mq' (key + 1) := by
              have := hM.next (mono_m hO) hml g1 g2 (fun c => ⟨hmf, g3 c⟩) (fun i c1 c2 c3 => g4 i c1 c2 c3.2)
              rw [← (hmv1 hml).1, q] at this
              exact this
            refine hfin jq' mq' _ f1 f2' (by omega) ?_ (by omega) (by omega)
            rw [hcl, hw, if_pos (show mq < len ∧ K mq - mb = key from ⟨hml, by rw [← (hmv1 hml).1, q]⟩)]
          · rw [if_neg q]
            have f2' : FI len (MP mb mf K) (fun i => K i - mb) mq (key + 1) := hM.stay (by omega) (fun c => by
              have := (hmv1 c).1
              show key + 1 ≤ K mq - mb
              omega)
            refine hfin jq' mq _ f1 f2' (by have := f3 (by omega); omega) ?_ (by omega) (by omega)
            rw [hcl, hw, if_neg (show ¬ (mq < len ∧ K mq - mb = key) from fun c => q (by rw [(hmv1 c.1).1, c.2])), Int.add_zero]
        rw [b_Su_merge_111, if_lt hmv3 hjv3]
        have ek : (if mv < jv then nI mv else nI jv) = nI key := by
          rw [hkey]; by_cases q : mv < jv
          · rw [if_pos q, if_pos q]
          · rw [if_neg q, if_neg q]
        rw [ek, nm_def, if_eqn hjv3 (by omega)]
        by_cases q : jv = key
        · have hjl : jq < len := by
            rcases Nat.lt_or_ge jq len with c | c
            · exact c
            · have := hjv2 (by omega); omega
          have hVj := hO.2.2 jq hjl
          rw [if_pos q, signed_all hn hO hC hjl]
          simp only [Option.bind_some]
          rw [nm_def, Int32.zero_add, nI_1]
          obtain ⟨jq', e1, g1, g2, g3, g4⟩ := seek_loop (F := F) (bit := jb) (wanted := 0) hC hl hK (by omega) F (len - (jq + 1)) (jq + 1) (by omega) (by omega)
          rw [f_Su_seek, show (0 : Int32) = nI 0 from rfl, e1]
          simp only [Option.bind_some]
          have hb2 := sgZ_bound (g := od (K jq &&& jp)) hVj.2.1 hVj.2.2.1
          have f1' : FI len (JP jb K) (fun i => K i + jb) jq' (key + 1) := by
            have := hJ.next (mono_j hO) hjl g1 g2 g3 g4
            rw [← (hjv1 hjl).1, q] at this
            exact this
          exact hmeet jq' _ f1' (by omega) (fun _ => g1) (by rw [if_pos ⟨hjl, by rw [← (hjv1 hjl).1, q]⟩]) (by omega) (by omega)
        · rw [if_neg q]
          have f1' : FI len (JP jb K) (fun i => K i + jb) jq (key + 1) := hJ.stay (by omega) (fun c => by
            have := (hjv1 c).1
            show key + 1 ≤ K jq + jb
            omega)
          exact hmeet jq 0 f1' (Nat.le_refl _) (fun c => absurd c q) (by rw [if_neg (fun c => q (by rw [(hjv1 c.1).1, c.2]))]) (by omega) (by omega)
      · have e0 : ∀ (X Y : MR), (if jq < len then X else if mq < len then X else Y) = Y := fun X Y => by
          rw [if_neg (by omega), if_neg (by omega)]
        rw [e0]
        exact done (by omega) (by omega)
theorem merge_all (hF : 200 < F) (hn : n0 ≤ 8) (hO : SumOk n0 len K V) (hC : SumC (nI len) keys numbers len K V) (hjb : jb < 65536) (hmb : mb < 65536) (hmf : mf = true ↔ mb ≠ 0) (sk sn : Nat → Int32) :
    MRes len keys numbers (cl jb jp mb mp mf len K V) (f_Su_merge F (nI len) keys numbers sk sn (nI jb) (nI jp) (nI mb) (nI mp)) := by
  have hl := hO.1
  have hK : ∀ i, i < len → K i < 65536 := fun i hi => (hO.key hn hi).1
  obtain ⟨jq, e1, g1, g2, g3, g4⟩ := seek_loop (F := F) (bit := jb) (wanted := 0) hC hl hK (by omega) F len 0 (by omega) (by omega)
  have e1' : f_Su_seek F (nI len) keys 0 (nI jb) 0 = some (nI jq) := e1
  rw [f_Su_merge, e1']
  simp only [Option.bind_some]
  have hJ : FI len (JP jb K) (fun i => K i + jb) jq 0 := ⟨g2, fun h => ⟨g3 h, Nat.zero_le _⟩, fun i hi hp => absurd hp (g4 i (Nat.zero_le _) hi)⟩
  have hS : SumC (nI 0) sk sn 0 K V := ⟨rfl, fun i hi => by omega⟩
  rw [show (0 : Int32) = nI 0 from rfl, if_eqn (by omega) (by omega)]
  by_cases h0 : mb = 0
  · rw [if_pos h0, b_Su_merge_30]
    have hmf0 : mf ≠ true := fun q => hmf.mp q h0
    have hM : FI len (MP mb mf K) (fun i => K i - mb) len 0 := ⟨Nat.le_refl _, fun h => by omega, fun i hi hp => absurd hp.1 hmf0⟩
    exact merge_loop (by omega) hn hO hC hjb hmb F 0 0 jq len 0 K V sk sn (by omega) (by omega) (by omega) (by omega) hJ hM hS (Scan.nil _ _ _)
  · rw [if_neg h0]
    obtain ⟨mq, e2, q1, q2, q3, q4⟩ := seek_loop (F := F) (bit := mb) (wanted := mb) hC hl hK hmb F len 0 (by omega) (by omega)
    rw [f_Su_seek, e2]
    simp only [Option.bind_some]
    rw [b_Su_merge_30]
    have hM : FI len (MP mb mf K) (fun i => K i - mb) mq 0 := ⟨q2, fun h => ⟨⟨hmf.mpr h0, q3 h⟩, Nat.zero_le _⟩, fun i hi hp => absurd hp.2 (q4 i (Nat.zero_le _) hi)⟩
    exact merge_loop (by omega) hn hO hC hjb hmb F 0 0 jq mq 0 K V sk sn (by omega) (by omega) (by omega) (by omega) hJ hM hS (Scan.nil _ _ _)
end
