/-! The law: program and model, side by side -/
theorem to_nm {α β : Type} {x : α} {k : α → β} {r : β} (h : k x = r) : nm x k = r := h
theorem to_cell {β : Type} {x : Int32} {a L : Nat} {K : Int32 → Option β} {r : Option β} (e : x = nI a) (h : a < L) (hL : L ≤ 2048) (h2 : K (nI a) = r) : nm x (fun t => ckI t L (K t)) = r := by
  rw [nm_def, e, ck_n h (by omega)]
  exact h2
theorem to_ck {β : Type} {a L : Nat} {k r : Option β} (h : a < L) (hL : L ≤ 2048) (h2 : k = r) : ckI (nI a) L k = r := by
  rw [ck_n h (by omega)]
  exact h2
theorem to_ite {β : Type} {c : Prop} [Decidable c] {a b r : β} (h1 : c → a = r) (h2 : ¬ c → b = r) : (if c then a else b) = r := by
  by_cases h : c
  · rw [if_pos h]; exact h1 h
  · rw [if_neg h]; exact h2 h
theorem to_yes {β : Type} {c : Prop} [Decidable c] {a b r : β} (h : c) (h1 : a = r) : (if c then a else b) = r := by
  rw [if_pos h]; exact h1
theorem to_no {β : Type} {c : Prop} [Decidable c] {a b r : β} (h : ¬ c) (h1 : b = r) : (if c then a else b) = r := by
  rw [if_neg h]; exact h1
theorem to_bind {α β : Type} {f : Option α} {u : α} {k : α → Option β} {r : Option β} (h : f = some u) (h2 : k u = r) : f.bind k = r := by
  subst h; exact h2
theorem to_ck0 {β : Type} {k r : Option β} (h : k = r) : ckI 0 1 k = r := by
  rw [ckI, if_neg (by decide)]; exact h
theorem one_ne : ¬ (1 : Int32) = 0 := by decide
/-- what program and model hold together -/
def Rel (count : Int32) (keys numbers : Nat → Int32) (size kind : Int32) (told rows back : Nat → Int32) (drawn held te wi ha : Int32) (fo ta : Nat → Int32) (nb : Nat → Int64) (modes products wk ik ip im iw : Int32) (ups downs : Nat → Int32) (num : Nat → Int64) (rowOf wr re : Nat → Int32) (img : Nat → Int64) (pl : Nat → Int32) : Prop :=
  ∃ (n kd : Nat) (T R B : Nat → Nat) (len : Nat) (K : Nat → Nat) (V : Nat → Int), WR n kd T R B size kind told rows back modes wk rowOf wr re ∧ SumOk n len K V ∧ SumC count keys numbers len K V ∧ SumM products ups downs num len K V ∧ CacheC n len R B K V drawn held te wi ha fo ta nb ∧ CacheM n len B K V ik ip im iw img pl
theorem SumOk.zero (n : Nat) (K : Nat → Nat) (V : Nat → Int) : SumOk n 0 K V := ⟨by decide, fun i j _ h => absurd h (Nat.not_lt_zero j), fun i h => absurd h (Nat.not_lt_zero i)⟩
theorem SumC.zero (keys numbers : Nat → Int32) (K : Nat → Nat) (V : Nat → Int) : SumC 0 keys numbers 0 K V := ⟨rfl, fun i h => absurd h (Nat.not_lt_zero i)⟩
theorem SumM.zero (ups downs : Nat → Int32) (num : Nat → Int64) (K : Nat → Nat) (V : Nat → Int) : SumM 0 ups downs num 0 K V := ⟨rfl, fun i h => absurd h (Nat.not_lt_zero i)⟩
section
variable {F : Nat} {count : Int32} {keys numbers sk sn : Nat → Int32} {size kind : Int32} {told rows back sb lf : Nat → Int32} {drawn held te wi ha fs : Int32} {fo ta : Nat → Int32} {nb : Nat → Int64} {sp : Nat → Int32} {thrown modes products wk ik a b newMany ip im iw : Int32} {ups downs : Nat → Int32} {num : Nat → Int64} {rowOf wr re : Nat → Int32} {mx ot : Nat → Int64} {nu nd : Nat → Int32} {nn fd img : Nat → Int64} {pl : Nat → Int32} {arr : Nat → Int64}
theorem rel_start (hF : 600 < F) {n : Nat} (hn1 : 1 ≤ n) (hn : n ≤ 8) :
    ∃ u v, f_Wi_reset F size kind told rows back (nI n) = some u ∧ f_Mo_start F modes products wk ik rowOf wr re (nI n) = some v ∧
      Rel 0 keys numbers u.1 u.2.1 u.2.2.1 u.2.2.2.1 u.2.2.2.2 0 held te wi ha fo ta nb v.1 v.2.1 v.2.2.1 v.2.2.2.1 ip im iw ups downs num v.2.2.2.2.1 v.2.2.2.2.2.1 v.2.2.2.2.2.2 img pl := by
  obtain ⟨t, r, b, ro', wr', re', e1, e2, h⟩ := begin_all (F := F) (size := size) (kind := kind) (modes := modes) (products := products) (wk := wk) (ik := ik) (told := told) (rows := rows) (back := back) (rowOf := rowOf) (wr := wr) (re := re) hF hn1 hn
  exact ⟨_, _, e1, e2, n, 0, _, _, _, 0, (fun _ => 0), (fun _ => 0), h, SumOk.zero _ _ _, SumC.zero _ _ _ _, SumM.zero _ _ _ _ _, Or.inl rfl, Or.inl rfl⟩
theorem rel_begin (hF : 600 < F) (h : Rel count keys numbers size kind told rows back drawn held te wi ha fo ta nb modes products wk ik ip im iw ups downs num rowOf wr re img pl) (p1 : Int32) :
    ∃ u v, f_FM_begin F count size kind told rows back drawn p1 = some u ∧ f_Mo_begin F thrown modes products wk ik rowOf wr re p1 = some v ∧ u.1 = v.1 ∧
      Rel u.2.1 keys numbers u.2.2.1 u.2.2.2.1 u.2.2.2.2.1 u.2.2.2.2.2.1 u.2.2.2.2.2.2.1 u.2.2.2.2.2.2.2 held te wi ha fo ta nb v.2.2.1 v.2.2.2.1 v.2.2.2.2.1 v.2.2.2.2.2.1 ip im iw ups downs num v.2.2.2.2.2.2.1 v.2.2.2.2.2.2.2.1 v.2.2.2.2.2.2.2.2 img pl := by
  rw [f_FM_begin, f_Mo_begin]
  by_cases h1 : p1 < 1
  · rw [if_pos h1, if_pos h1]
    exact ⟨_, _, rfl, rfl, rfl, h⟩
  · rw [if_neg h1, if_neg h1]
    by_cases h2 : p1 ≤ 8
    · rw [if_pos h2, if_pos h2]
      obtain ⟨m, hm, rfl⟩ := nI_of (x := p1) (fun q => h1 (Int32.lt_trans q (by decide)))
      have q1 : 1 ≤ m := Nat.not_lt.mp (fun q => h1 ((nI_ltI (b := 1) hm (by decide)).mpr q))
      have q2 : m ≤ 8 := (nI_leI (b := 8) hm (by decide)).mp h2
      obtain ⟨u, v, e1, e2, hr⟩ := rel_start (F := F) (size := size) (kind := kind) (modes := modes) (products := products) (wk := wk) (ik := ik) (told := told) (rows := rows) (back := back) (rowOf := rowOf) (wr := wr) (re := re) (keys := keys) (numbers := numbers) (held := held) (te := te) (wi := wi) (ha := ha) (fo := fo) (ta := ta) (nb := nb) (ip := ip) (im := im) (iw := iw) (ups := ups) (downs := downs) (num := num) (img := img) (pl := pl) hF q1 q2
      rw [e1, e2]
      exact ⟨_, _, rfl, rfl, rfl, hr⟩
    · rw [if_neg h2, if_neg h2]
      exact ⟨_, _, rfl, rfl, rfl, h⟩
theorem rel_add (hF : 600 < F) (h : Rel count keys numbers size kind told rows back drawn held te wi ha fo ta nb modes products wk ik ip im iw ups downs num rowOf wr re img pl) (p1 p2 p3 : Int32) :
    ∃ u v, f_FM_add F count keys numbers size drawn p1 p2 p3 = some u ∧ f_Mo_add F thrown modes products ik newMany ups downs num nu nd nn p1 p2 p3 = some v ∧ u.1 = v.1 ∧
      Rel u.2.1 u.2.2.1 u.2.2.2.1 size kind told rows back u.2.2.2.2 held te wi ha fo ta nb modes v.2.2.1 wk v.2.2.2.1 ip im iw v.2.2.2.2.2.1 v.2.2.2.2.2.2.1 v.2.2.2.2.2.2.2.1 rowOf wr re img pl := by
  obtain ⟨n, kd, T, R, B, len, K, V, hW, hO, hC, hM, hc, hm⟩ := h
  have hW' := hW
  obtain ⟨⟨hn1, hn, hkd⟩, ⟨rfl, rfl, rfl, rfl⟩, -⟩ := hW
  obtain ⟨r, c', k', n', dr', pr', ik', nm', u', d', v', nu', nd', nn', len', K', V', e1, e2, hO', hC', hM', hd⟩ := add_op (F := F) (drawn := drawn) (ik := ik) (newMany := newMany) (thrown := thrown) (nu := nu) (nd := nd) (nn := nn) (by omega) hn hO hC hM p1 p2 p3
  refine ⟨_, _, e1, e2, rfl, n, kd, T, R, B, len', K', V', hW', hO', hC', hM', ?_, ?_⟩
  · rcases hd with ⟨q1, q2⟩ | ⟨rfl, rfl, rfl, rfl, rfl⟩
    · exact Or.inl q1
    · exact hc
  · rcases hd with ⟨q1, q2⟩ | ⟨rfl, rfl, rfl, rfl, rfl⟩
    · exact Or.inl q2
    · exact hm
theorem rel_ladder (hF : 600 < F) (h : Rel count keys numbers size kind told rows back drawn held te wi ha fo ta nb modes products wk ik ip im iw ups downs num rowOf wr re img pl) (p1 s2 s3 : Int32) (h2 : s2 = 0 ∨ s2 = 1) (h3 : s3 = 0 ∨ s3 = 1) :
    ∃ u v, f_FM_ladder F count keys numbers sk sn size drawn p1 s2 s3 = some u ∧ f_Mo_ladder F thrown modes products ik a b newMany ups downs num mx ot nu nd nn fd p1 s2 s3 = some v ∧ u.1 = v.1 ∧
      Rel u.2.1 u.2.2.1 u.2.2.2.1 size kind told rows back u.2.2.2.2.2.2 held te wi ha fo ta nb modes v.2.2.1 wk v.2.2.2.1 ip im iw v.2.2.2.2.2.2.2.1 v.2.2.2.2.2.2.2.2.1 v.2.2.2.2.2.2.2.2.2.1 rowOf wr re img pl := by
  obtain ⟨n, kd, T, R, B, len, K, V, hW, hO, hC, hM, hc, hm⟩ := h
  have hW' := hW
  obtain ⟨⟨hn1, hn, hkd⟩, ⟨rfl, rfl, rfl, rfl⟩, -⟩ := hW
  obtain ⟨b1, rfl⟩ : ∃ b1 : Bool, s2 = b2 b1 := by
    rcases h2 with rfl | rfl
    · exact ⟨false, rfl⟩
    · exact ⟨true, rfl⟩
  obtain ⟨b3, rfl⟩ : ∃ b1 : Bool, s3 = b2 b1 := by
    rcases h3 with rfl | rfl
    · exact ⟨false, rfl⟩
    · exact ⟨true, rfl⟩
  obtain ⟨r, c', k', n', sk', sn', dr', pr', ik', a', b', nm', u', d', v', mx', ot', nu', nd', nn', fd', len', K', V', e1, e2, hO', hC', hM', hd⟩ := ladder_op (F := F) (drawn := drawn) (ik := ik) (newMany := newMany) (thrown := thrown) (a := a) (b := b) (sk := sk) (sn := sn) (mx := mx) (ot := ot) (fd := fd) (nu := nu) (nd := nd) (nn := nn) hF hn hO hC hM p1 b1 b3
  refine ⟨_, _, e1, e2, rfl, n, kd, T, R, B, len', K', V', hW', hO', hC', hM', ?_, ?_⟩
  · rcases hd with ⟨q1, q2⟩ | ⟨rfl, rfl, rfl, rfl, rfl⟩
    · exact Or.inl q1
    · exact hc
  · rcases hd with ⟨q1, q2⟩ | ⟨rfl, rfl, rfl, rfl, rfl⟩
    · exact Or.inl q2
    · exact hm
theorem rel_clear (hF : 600 < F) (h : Rel count keys numbers size kind told rows back drawn held te wi ha fo ta nb modes products wk ik ip im iw ups downs num rowOf wr re img pl) :
    ∃ u v, f_FM_clear F count drawn = some u ∧ f_Mo_clear F thrown products ik newMany ups downs num nu nd nn = some v ∧
      Rel u.1 keys numbers size kind told rows back u.2 held te wi ha fo ta nb modes v.2.1 wk v.2.2.1 ip im iw v.2.2.2.2.1 v.2.2.2.2.2.1 v.2.2.2.2.2.2 rowOf wr re img pl := by
  obtain ⟨n, kd, T, R, B, len, K, V, hW, hO, hC, hM, hc, hm⟩ := h
  obtain ⟨u', d', v', e, hM'⟩ := mtake_all (F := F) (m := 0) (u := ups) (d := downs) (v := num) (pr := products) (ik := ik) (by omega) (by omega) (SumM.zero nu nd nn K V)
  have e' : f_Mo_take F products ik 0 ups downs num nu nd nn = some (nI 0, nI 0, 0, u', d', v') := e
  rw [f_FM_clear, f_Mo_clear, e']
  exact ⟨_, _, rfl, rfl, n, kd, T, R, B, 0, K, V, hW, SumOk.zero _ _ _, SumC.zero _ _ _ _, hM', Or.inl rfl, Or.inl rfl⟩
theorem rel_product (h : Rel count keys numbers size kind told rows back drawn held te wi ha fo ta nb modes products wk ik ip im iw ups downs num rowOf wr re img pl) (p1 p2 : Int32) :
    ∃ u v, f_La_product F count keys numbers arr p1 p2 = some u ∧ f_Mo_product F thrown products ups downs num p1 p2 = some v ∧ v.2 = u.1 ∧ (u.1 = 0 → u.2 (0 : Int32).toNatClampNeg = v.1.toInt64) := by
  obtain ⟨n, kd, T, R, B, len, K, V, hW, hO, hC, hM, hc, hm⟩ := h
  obtain ⟨o, r, th, e1, e2, q⟩ := product_op (F := F) (thrown := thrown) hW.1.2.1 hO hC hM p1 p2
  rw [f_La_product, e1]
  rcases q with ⟨rfl, rfl⟩ | ⟨rfl, rfl⟩
  · exact ⟨_, _, rfl, e2, rfl, fun q => absurd q one_ne⟩
  · refine ⟨(0, vp_updL arr (0 : Int32).toNatClampNeg r.toInt64), _, ?_, e2, ?_, ?_⟩
    · simp only [Option.bind_some, opt, nm_def]
      exact to_ck0 rfl
    · rfl
    · intro _
      exact updL_at arr (0 : Int32).toNatClampNeg r.toInt64
theorem rel_makes (hF : 600 < F) (h : Rel count keys numbers size kind told rows back drawn held te wi ha fo ta nb modes products wk ik ip im iw ups downs num rowOf wr re img pl) (p1 p2 : Int32) :
    ∃ u v, f_La_makes F count keys numbers size arr p1 p2 = some u ∧ f_Mo_makes F thrown modes products a b ups downs num p1 p2 = some v ∧ v.2.1 = u.1 ∧ (u.1 = 0 → u.2 (0 : Int32).toNatClampNeg = v.1) := by
  obtain ⟨n, kd, T, R, B, len, K, V, hW, hO, hC, hM, hc, hm⟩ := h
  obtain ⟨⟨hn1, hn, hkd⟩, ⟨rfl, rfl, rfl, rfl⟩, -⟩ := hW
  obtain ⟨o, r, th, a', b', e1, e2, q⟩ := makes_op (F := F) (thrown := thrown) (a := a) (b := b) (by omega) hn hO hC hM p1 p2
  rw [f_La_makes, e1]
  rcases q with ⟨rfl, rfl⟩ | ⟨rfl, rfl⟩
  · exact ⟨_, _, rfl, e2, rfl, fun q => absurd q one_ne⟩
  · refine ⟨(0, vp_updL arr (0 : Int32).toNatClampNeg r), _, ?_, e2, ?_, ?_⟩
    · simp only [Option.bind_some, opt]
      exact to_ck0 rfl
    · rfl
    · intro _
      exact updL_at arr (0 : Int32).toNatClampNeg r
theorem rel_way (hF : 600 < F) (h : Rel count keys numbers size kind told rows back drawn held te wi ha fo ta nb modes products wk ik ip im iw ups downs num rowOf wr re img pl) (p1 : Int32) :
    ∃ u v, f_FM_way F size kind told rows back sb lf drawn p1 = some u ∧ f_Mo_way F thrown modes wk ik rowOf wr re p1 = some v ∧ u.1 = v.1 ∧
      Rel count keys numbers size u.2.1 told u.2.2.1 u.2.2.2.1 u.2.2.2.2.2.2 held te wi ha fo ta nb modes products v.2.2.1 v.2.2.2.1 ip im iw ups downs num rowOf v.2.2.2.2.1 v.2.2.2.2.2 img pl := by
  obtain ⟨n, kd, T, R, B, len, K, V, hW, hO, hC, hM, hc, hm⟩ := h
  obtain ⟨r, kind', rows', back', sb', l', dr', wk', ik', wr', re', kd', R', B', e1, e2, hW', hd⟩ := way_op (F := F) (sb := sb) (l := lf) (drawn := drawn) (ik := ik) (thrown := thrown) hF hW p1
  refine ⟨_, _, e1, e2, rfl, n, kd', T, R', B', len, K, V, hW', hO, hC, hM, ?_, ?_⟩
  · rcases hd with ⟨q1, q2⟩ | ⟨rfl, rfl, rfl, rfl⟩
    · exact Or.inl q1
    · exact hc
  · rcases hd with ⟨q1, q2⟩ | ⟨rfl, rfl, rfl, rfl⟩
    · exact Or.inl q2
    · exact hm
theorem rel_row (h : Rel count keys numbers size kind told rows back drawn held te wi ha fo ta nb modes products wk ik ip im iw ups downs num rowOf wr re img pl) (p1 p2 : Int32) :
    ∃ u v, f_FM_row F size kind told p1 p2 = some u ∧ f_Mo_row F thrown modes wk rowOf p1 p2 = some v ∧ u.1 = v.1 ∧
      Rel count keys numbers size kind u.2 rows back drawn held te wi ha fo ta nb modes products wk ik ip im iw ups downs num v.2.2 wr re img pl := by
  obtain ⟨n, kd, T, R, B, len, K, V, hW, hO, hC, hM, hc, hm⟩ := h
  obtain ⟨r, told', rowOf', T', e1, e2, hW'⟩ := row_op (F := F) (thrown := thrown) hW p1 p2
  exact ⟨_, _, e1, e2, rfl, n, kd, T', R, B, len, K, V, hW', hO, hC, hM, hc, hm⟩
theorem rel_written (hF : 600 < F) (h : Rel count keys numbers size kind told rows back drawn held te wi ha fo ta nb modes products wk ik ip im iw ups downs num rowOf wr re img pl) (p1 : Int32) :
    (∃ u v, f_FM_written F size rows p1 = some u ∧ f_Mo_written F thrown modes wr p1 = some v ∧ u = v.1) ∧ ∃ u v, f_FM_read F size back p1 = some u ∧ f_Mo_read F thrown modes re p1 = some v ∧ u = v.1 := by
  obtain ⟨n, kd, T, R, B, len, K, V, hW, hO, hC, hM, hc, hm⟩ := h
  obtain ⟨⟨r, e1, e2⟩, r', e3, e4⟩ := written_op (F := F) (thrown := thrown) hF hW p1
  exact ⟨⟨_, _, e1, e2, rfl⟩, _, _, e3, e4, rfl⟩
theorem rel_image (hF : 70000 < F) (h : Rel count keys numbers size kind told rows back drawn held te wi ha fo ta nb modes products wk ik ip im iw ups downs num rowOf wr re img pl) (p1 p2 : Int32) :
    ∃ u v, f_La_image F count keys numbers size rows back drawn held te wi ha fs fo ta nb sp arr p1 p2 = some u ∧ f_Mo_image F thrown modes products ik a b ip im iw ups downs num re mx img pl p1 p2 = some v ∧ v.2.1 = u.1 ∧ (u.1 = 0 → u.2.2.2.2.2.2.2.2.2.2.2 (0 : Int32).toNatClampNeg = v.1) ∧
      Rel count keys numbers size kind told rows back u.2.1 u.2.2.1 u.2.2.2.1 u.2.2.2.2.1 u.2.2.2.2.2.1 u.2.2.2.2.2.2.2.1 u.2.2.2.2.2.2.2.2.1 u.2.2.2.2.2.2.2.2.2.1 modes products wk v.2.2.1 v.2.2.2.2.2.1 v.2.2.2.2.2.2.1 v.2.2.2.2.2.2.2.1 ups downs num rowOf wr re v.2.2.2.2.2.2.2.2.2.1 v.2.2.2.2.2.2.2.2.2.2 := by
  obtain ⟨n, kd, T, R, B, len, K, V, hW, hO, hC, hM, hc, hm⟩ := h
  have hW' := hW
  obtain ⟨⟨hn1, hn, hkd⟩, ⟨rfl, rfl, rfl, rfl⟩, hT, hT2, hr, hb, hI, hwr, hre⟩ := hW
  obtain ⟨o, r, th, dr', held', te', wi', ha', fs', fo', ta', nb', sp', ik', a', b', ip', im', iw', mx', img', pl', e1, e2, q, hc', hm'⟩ := image_op (F := F) (thrown := thrown) (a := a) (b := b) (mx := mx) (fs := fs) (sp := sp) hF hn hO hC hM hI hr hb hre hc hm p1 p2
  rw [f_La_image, e1]
  rcases q with ⟨rfl, rfl⟩ | ⟨rfl, rfl⟩
  · exact ⟨_, _, rfl, e2, rfl, fun q => absurd q one_ne, n, kd, T, R, B, len, K, V, hW', hO, hC, hM, hc', hm'⟩
  · refine ⟨(0, dr', held', te', wi', ha', fs', fo', ta', nb', sp', vp_updL arr (0 : Int32).toNatClampNeg r), _, ?_, e2, rfl, ?_, n, kd, T, R, B, len, K, V, hW', hO, hC, hM, hc', hm'⟩
    · simp only [Option.bind_some, opt]
      exact to_ck0 rfl
    · intro _
      exact updL_at arr (0 : Int32).toNatClampNeg r
theorem rel_total (hF : 70000 < F) (h : Rel count keys numbers size kind told rows back drawn held te wi ha fo ta nb modes products wk ik ip im iw ups downs num rowOf wr re img pl) (p1 : Int32) :
    ∃ u v, f_FM_total F count keys numbers size kind rows back drawn held te wi ha fo ta nb sp p1 = some u ∧ f_Mo_total F thrown modes products wk ik a b ip im iw ups downs num re mx img pl p1 = some v ∧ u.1 = v.1 ∧
      Rel count keys numbers size kind told rows back u.2.1 u.2.2.1 u.2.2.2.1 u.2.2.2.2.1 u.2.2.2.2.2.1 u.2.2.2.2.2.2.1 u.2.2.2.2.2.2.2.1 u.2.2.2.2.2.2.2.2.1 modes products wk v.2.2.1 v.2.2.2.2.2.1 v.2.2.2.2.2.2.1 v.2.2.2.2.2.2.2.1 ups downs num rowOf wr re v.2.2.2.2.2.2.2.2.2.1 v.2.2.2.2.2.2.2.2.2.2 := by
  obtain ⟨n, kd, T, R, B, len, K, V, hW, hO, hC, hM, hc, hm⟩ := h
  have hW' := hW
  obtain ⟨⟨hn1, hn, hkd⟩, ⟨hsz, hkn, hmd, hwk⟩, hT, hT2, hr, hb, hI, hwr, hre⟩ := hW
  obtain ⟨r, dr', held', te', wi', ha', fo', ta', nb', sp', ik', a', b', ip', im', iw', mx', img', pl', e1, e2, hc', hm'⟩ := total_op (F := F) (thrown := thrown) (a := a) (b := b) (mx := mx) (sp := sp) hF hn hO hC hM hI hr hb hre hc hm hsz hmd (hkn.trans hwk.symm) p1
  exact ⟨_, _, e1, e2, rfl, n, kd, T, R, B, len, K, V, hW', hO, hC, hM, hc', hm'⟩
end
theorem law_end {L i : Nat} (hL : L ≤ 2048) (hi : i ≤ 4096) (h : ¬ (Int32.ofNat L - 4 < nI i)) : i + 4 ≤ L := by
  apply Nat.not_lt.mp
  intro q
  apply h
  by_cases h4 : 4 ≤ L
  · have e : Int32.ofNat L - 4 = nI (L - 4) := pk_sub (a := L) (b := 4) h4
    rw [e]
    exact nI_lt (by omega) (by omega)
  · have e : ∀ k, k < 4 → Int32.ofNat k - 4 < 0 := by decide
    exact Int32.lt_of_lt_of_le (e L (by omega)) (nI_pos' (by omega))
section
variable {F : Nat} {xs : Nat → Int32} {L : Nat}
set_option maxHeartbeats 4000000 in
set_option maxRecDepth 100000 in
theorem law_loop (hF : 70000 < F) (hL : L ≤ 2048) :
    ∀ (n i : Nat) (count : Int32) (keys numbers sk sn : Nat → Int32) (size kind : Int32) (told rows back sb lf : Nat → Int32) (drawn held te wi ha fs : Int32) (fo ta : Nat → Int32) (nb : Nat → Int64) (sp : Nat → Int32) (thrown modes products wk ik a b newMany ip im iw : Int32) (ups downs : Nat → Int32) (num : Nat → Int64) (rowOf wr re : Nat → Int32) (mx ot : Nat → Int64) (nu nd : Nat → Int32) (nn fd img : Nat → Int64) (pl : Nat → Int32) (arr : Nat → Int64),
      i ≤ L → L < 4 * n + i → Rel count keys numbers size kind told rows back drawn held te wi ha fo ta nb modes products wk ik ip im iw ups downs num rowOf wr re img pl →
      b_La_law_23 F xs L n (nI i) count keys numbers sk sn size kind told rows back sb lf drawn held te wi ha fs fo ta nb sp thrown modes products wk ik a b newMany ip im iw ups downs num rowOf wr re mx ot nu nd nn fd img pl arr = some 1 := by
  intro n
  induction n with
  | zero =>
    intro i count keys numbers sk sn size kind told rows back sb lf drawn held te wi ha fs fo ta nb sp thrown modes products wk ik a b newMany ip im iw ups downs num rowOf wr re mx ot nu nd nn fd img pl arr h1 h2 h
    omega
  | succ n ih =>
    intro i count keys numbers sk sn size kind told rows back sb lf drawn held te wi ha fs fo ta nb sp thrown modes products wk ik a b newMany ip im iw ups downs num rowOf wr re mx ot nu nd nn fd img pl arr h1 h2 h
    have hF6 : 600 < F := by omega
    have go : ∀ (count : Int32) (keys numbers sk sn : Nat → Int32) (size kind : Int32) (told rows back sb lf : Nat → Int32) (drawn held te wi ha fs : Int32) (fo ta : Nat → Int32) (nb : Nat → Int64) (sp : Nat → Int32) (thrown modes products wk ik a b newMany ip im iw : Int32) (ups downs : Nat → Int32) (num : Nat → Int64) (rowOf wr re : Nat → Int32) (mx ot : Nat → Int64) (nu nd : Nat → Int32) (nn fd img : Nat → Int64) (pl : Nat → Int32) (arr : Nat → Int64),
        i + 4 ≤ L → Rel count keys numbers size kind told rows back drawn held te wi ha fo ta nb modes products wk ik ip im iw ups downs num rowOf wr re img pl →
        b_La_law_605 F (b_La_law_23 F xs L n) xs L (nI i) count keys numbers sk sn size kind told rows back sb lf drawn held te wi ha fs fo ta nb sp thrown modes products wk ik a b newMany ip im iw ups downs num rowOf wr re mx ot nu nd nn fd img pl arr = some 1 := by
      intro count keys numbers sk sn size kind told rows back sb lf drawn held te wi ha fs fo ta nb sp thrown modes products wk ik a b newMany ip im iw ups downs num rowOf wr re mx ot nu nd nn fd img pl arr q1 q2
      rw [b_La_law_605, nm_def, show nI i + 4 = nI (i + 4) from nI_add i 4]
      exact ih (i + 4) _ _ _ _ _ _ _ _ _ _ _ _ _ _ _ _ _ _ _ _ _ _ _ _ _ _ _ _ _ _ _ _ _ _ _ _ _ _ _ _ _ _ _ _ _ _ _ _ (by omega) (by omega) q2
    rw [b_La_law_23]
    refine to_ite (fun _ => rfl) (fun he => ?_)
    have hi := law_end hL (by omega) he
    have c1 : i + 1 < L := by omega
    have c2 : i + 2 < L := by omega
    have c3 : i + 3 < L := by omega
    have e1 : nI i + 1 = nI (i + 1) := nI_add i 1
    have e2 : nI i + 2 = nI (i + 2) := nI_add i 2
    have e3 : nI i + 3 = nI (i + 3) := nI_add i 3
    refine to_ck (show i < L by omega) hL ?_
    refine to_nm ?_
    refine to_ite (fun _ => ?_) (fun _ => ?_)
    · refine to_cell e1 c1 hL ?_
      obtain ⟨u, v, f1, f2, f3, f4⟩ := rel_begin (thrown := thrown) hF6 h (xs (nI (i + 1)).toNatClampNeg)
      refine to_bind f1 ?_
      refine to_cell e1 c1 hL ?_
      refine to_bind f2 ?_
      refine to_yes f3 ?_
      exact go _ _ _ _ _ _ _ _ _ _ _ _ _ _ _ _ _ _ _ _ _ _ _ _ _ _ _ _ _ _ _ _ _ _ _ _ _ _ _ _ _ _ _ _ _ _ _ _ hi f4
    refine to_ite (fun _ => ?_) (fun _ => ?_)
    · refine to_cell e1 c1 hL ?_
      refine to_cell e2 c2 hL ?_
      refine to_cell e3 c3 hL ?_
      obtain ⟨u, v, f1, f2, f3, f4⟩ := rel_add (thrown := thrown) (newMany := newMany) (nu := nu) (nd := nd) (nn := nn) hF6 h (xs (nI (i + 1)).toNatClampNeg) (xs (nI (i + 2)).toNatClampNeg) (xs (nI (i + 3)).toNatClampNeg)
      refine to_bind f1 ?_
      refine to_cell e1 c1 hL ?_
      refine to_cell e2 c2 hL ?_
      refine to_cell e3 c3 hL ?_
      refine to_bind f2 ?_
      refine to_yes f3 ?_
      exact go _ _ _ _ _ _ _ _ _ _ _ _ _ _ _ _ _ _ _ _ _ _ _ _ _ _ _ _ _ _ _ _ _ _ _ _ _ _ _ _ _ _ _ _ _ _ _ _ hi f4
    refine to_ite (fun _ => ?_) (fun _ => ?_)
    · refine to_cell e1 c1 hL ?_
      refine to_cell e2 c2 hL ?_
      by_cases ha : xs (nI (i + 2)).toNatClampNeg = 0 <;> by_cases hb : xs (nI (i + 3)).toNatClampNeg = 0
      · refine to_yes ha ?_
        rw [b_La_law_195]
        refine to_cell e3 c3 hL ?_
        refine to_yes hb ?_
        rw [b_La_law_209]
        obtain ⟨u, v, f1, f2, f3, f4⟩ := rel_ladder (sk := sk) (sn := sn) (thrown := thrown) (a := a) (b := b) (newMany := newMany) (mx := mx) (ot := ot) (nu := nu) (nd := nd) (nn := nn) (fd := fd) hF6 h (xs (nI (i + 1)).toNatClampNeg) 0 0 (by decide) (by decide)
        refine to_bind f1 ?_
        refine to_cell e1 c1 hL ?_
        refine to_cell e2 c2 hL ?_
        refine to_yes ha ?_
        rw [b_La_law_233]
        refine to_cell e3 c3 hL ?_
        refine to_yes hb ?_
        rw [b_La_law_247]
        refine to_bind f2 ?_
        refine to_yes f3 ?_
        exact go _ _ _ _ _ _ _ _ _ _ _ _ _ _ _ _ _ _ _ _ _ _ _ _ _ _ _ _ _ _ _ _ _ _ _ _ _ _ _ _ _ _ _ _ _ _ _ _ hi f4
      · refine to_yes ha ?_
        rw [b_La_law_195]
        refine to_cell e3 c3 hL ?_
        refine to_no hb ?_
        rw [b_La_law_209]
        obtain ⟨u, v, f1, f2, f3, f4⟩ := rel_ladder (sk := sk) (sn := sn) (thrown := thrown) (a := a) (b := b) (newMany := newMany) (mx := mx) (ot := ot) (nu := nu) (nd := nd) (nn := nn) (fd := fd) hF6 h (xs (nI (i + 1)).toNatClampNeg) 0 1 (by decide) (by decide)
        refine to_bind f1 ?_
        refine to_cell e1 c1 hL ?_
        refine to_cell e2 c2 hL ?_
        refine to_yes ha ?_
        rw [b_La_law_233]
        refine to_cell e3 c3 hL ?_
        refine to_no hb ?_
        rw [b_La_law_247]
        refine to_bind f2 ?_
        refine to_yes f3 ?_
        exact go _ _ _ _ _ _ _ _ _ _ _ _ _ _ _ _ _ _ _ _ _ _ _ _ _ _ _ _ _ _ _ _ _ _ _ _ _ _ _ _ _ _ _ _ _ _ _ _ hi f4
      · refine to_no ha ?_
        rw [b_La_law_195]
        refine to_cell e3 c3 hL ?_
        refine to_yes hb ?_
        rw [b_La_law_209]
        obtain ⟨u, v, f1, f2, f3, f4⟩ := rel_ladder (sk := sk) (sn := sn) (thrown := thrown) (a := a) (b := b) (newMany := newMany) (mx := mx) (ot := ot) (nu := nu) (nd := nd) (nn := nn) (fd := fd) hF6 h (xs (nI (i + 1)).toNatClampNeg) 1 0 (by decide) (by decide)
        refine to_bind f1 ?_
        refine to_cell e1 c1 hL ?_
        refine to_cell e2 c2 hL ?_
        refine to_no ha ?_
        rw [b_La_law_233]
        refine to_cell e3 c3 hL ?_
        refine to_yes hb ?_
        rw [b_La_law_247]
        refine to_bind f2 ?_
        refine to_yes f3 ?_
        exact go _ _ _ _ _ _ _ _ _ _ _ _ _ _ _ _ _ _ _ _ _ _ _ _ _ _ _ _ _ _ _ _ _ _ _ _ _ _ _ _ _ _ _ _ _ _ _ _ hi f4
      · refine to_no ha ?_
        rw [b_La_law_195]
        refine to_cell e3 c3 hL ?_
        refine to_no hb ?_
        rw [b_La_law_209]
        obtain ⟨u, v, f1, f2, f3, f4⟩ := rel_ladder (sk := sk) (sn := sn) (thrown := thrown) (a := a) (b := b) (newMany := newMany) (mx := mx) (ot := ot) (nu := nu) (nd := nd) (nn := nn) (fd := fd) hF6 h (xs (nI (i + 1)).toNatClampNeg) 1 1 (by decide) (by decide)
        refine to_bind f1 ?_
        refine to_cell e1 c1 hL ?_
        refine to_cell e2 c2 hL ?_
        refine to_no ha ?_
        rw [b_La_law_233]
        refine to_cell e3 c3 hL ?_
        refine to_no hb ?_
        rw [b_La_law_247]
        refine to_bind f2 ?_
        refine to_yes f3 ?_
        exact go _ _ _ _ _ _ _ _ _ _ _ _ _ _ _ _ _ _ _ _ _ _ _ _ _ _ _ _ _ _ _ _ _ _ _ _ _ _ _ _ _ _ _ _ _ _ _ _ hi f4
    refine to_ite (fun _ => ?_) (fun _ => ?_)
    · obtain ⟨u, v, f1, f2, f4⟩ := rel_clear (thrown := thrown) (newMany := newMany) (nu := nu) (nd := nd) (nn := nn) hF6 h
      refine to_bind f1 ?_
      refine to_bind f2 ?_
      exact go _ _ _ _ _ _ _ _ _ _ _ _ _ _ _ _ _ _ _ _ _ _ _ _ _ _ _ _ _ _ _ _ _ _ _ _ _ _ _ _ _ _ _ _ _ _ _ _ hi f4
    refine to_ite (fun _ => ?_) (fun _ => ?_)
    · refine to_cell e1 c1 hL ?_
      refine to_cell e2 c2 hL ?_
      obtain ⟨u, v, f1, f2, f3, f4⟩ := rel_product (F := F) (thrown := thrown) (arr := arr) h (xs (nI (i + 1)).toNatClampNeg) (xs (nI (i + 2)).toNatClampNeg)
      refine to_bind f1 ?_
      refine to_cell e1 c1 hL ?_
      refine to_cell e2 c2 hL ?_
      refine to_bind f2 ?_
      refine to_bind (u := v.2) rfl ?_
      refine to_yes f3 ?_
      refine to_ite (fun hz => ?_) (fun _ => ?_)
      · refine to_ck0 ?_
        refine to_yes (cmp_eq.mpr (f4 hz)) ?_
        rw [b_La_law_331]
        exact go _ _ _ _ _ _ _ _ _ _ _ _ _ _ _ _ _ _ _ _ _ _ _ _ _ _ _ _ _ _ _ _ _ _ _ _ _ _ _ _ _ _ _ _ _ _ _ _ hi h
      · rw [b_La_law_331]
        exact go _ _ _ _ _ _ _ _ _ _ _ _ _ _ _ _ _ _ _ _ _ _ _ _ _ _ _ _ _ _ _ _ _ _ _ _ _ _ _ _ _ _ _ _ _ _ _ _ hi h
    refine to_ite (fun _ => ?_) (fun _ => ?_)
    · refine to_cell e1 c1 hL ?_
      refine to_cell e2 c2 hL ?_
      obtain ⟨u, v, f1, f2, f3, f4⟩ := rel_makes (F := F) (thrown := thrown) (arr := arr) (a := a) (b := b) hF6 h (xs (nI (i + 1)).toNatClampNeg) (xs (nI (i + 2)).toNatClampNeg)
      refine to_bind f1 ?_
      refine to_cell e1 c1 hL ?_
      refine to_cell e2 c2 hL ?_
      refine to_bind f2 ?_
      refine to_bind (u := v.2.1) rfl ?_
      refine to_yes f3 ?_
      refine to_ite (fun hz => ?_) (fun _ => ?_)
      · refine to_ck0 ?_
        refine to_yes (cmp_eq.mpr (f4 hz)) ?_
        rw [b_La_law_398]
        exact go _ _ _ _ _ _ _ _ _ _ _ _ _ _ _ _ _ _ _ _ _ _ _ _ _ _ _ _ _ _ _ _ _ _ _ _ _ _ _ _ _ _ _ _ _ _ _ _ hi h
      · rw [b_La_law_398]
        exact go _ _ _ _ _ _ _ _ _ _ _ _ _ _ _ _ _ _ _ _ _ _ _ _ _ _ _ _ _ _ _ _ _ _ _ _ _ _ _ _ _ _ _ _ _ _ _ _ hi h
    refine to_ite (fun _ => ?_) (fun _ => ?_)
    · refine to_cell e1 c1 hL ?_
      obtain ⟨u, v, f1, f2, f3, f4⟩ := rel_way (thrown := thrown) (sb := sb) (lf := lf) hF6 h (xs (nI (i + 1)).toNatClampNeg)
      refine to_bind f1 ?_
      refine to_cell e1 c1 hL ?_
      refine to_bind f2 ?_
      refine to_yes f3 ?_
      exact go _ _ _ _ _ _ _ _ _ _ _ _ _ _ _ _ _ _ _ _ _ _ _ _ _ _ _ _ _ _ _ _ _ _ _ _ _ _ _ _ _ _ _ _ _ _ _ _ hi f4
    refine to_ite (fun _ => ?_) (fun _ => ?_)
    · refine to_cell e1 c1 hL ?_
      refine to_cell e2 c2 hL ?_
      obtain ⟨u, v, f1, f2, f3, f4⟩ := rel_row (F := F) (thrown := thrown) h (xs (nI (i + 1)).toNatClampNeg) (xs (nI (i + 2)).toNatClampNeg)
      refine to_bind f1 ?_
      refine to_cell e1 c1 hL ?_
      refine to_cell e2 c2 hL ?_
      refine to_bind f2 ?_
      refine to_yes f3 ?_
      exact go _ _ _ _ _ _ _ _ _ _ _ _ _ _ _ _ _ _ _ _ _ _ _ _ _ _ _ _ _ _ _ _ _ _ _ _ _ _ _ _ _ _ _ _ _ _ _ _ hi f4
    refine to_ite (fun _ => ?_) (fun _ => ?_)
    · refine to_cell e1 c1 hL ?_
      obtain ⟨u, v, f1, f2, f3⟩ := (rel_written (thrown := thrown) hF6 h (xs (nI (i + 1)).toNatClampNeg)).1
      refine to_bind f1 ?_
      refine to_cell e1 c1 hL ?_
      refine to_bind f2 ?_
      refine to_yes f3 ?_
      exact go _ _ _ _ _ _ _ _ _ _ _ _ _ _ _ _ _ _ _ _ _ _ _ _ _ _ _ _ _ _ _ _ _ _ _ _ _ _ _ _ _ _ _ _ _ _ _ _ hi h
    refine to_ite (fun _ => ?_) (fun _ => ?_)
    · refine to_cell e1 c1 hL ?_
      obtain ⟨u, v, f1, f2, f3⟩ := (rel_written (thrown := thrown) hF6 h (xs (nI (i + 1)).toNatClampNeg)).2
      refine to_bind f1 ?_
      refine to_cell e1 c1 hL ?_
      refine to_bind f2 ?_
      refine to_yes f3 ?_
      exact go _ _ _ _ _ _ _ _ _ _ _ _ _ _ _ _ _ _ _ _ _ _ _ _ _ _ _ _ _ _ _ _ _ _ _ _ _ _ _ _ _ _ _ _ _ _ _ _ hi h
    refine to_ite (fun _ => ?_) (fun _ => ?_)
    · refine to_cell e1 c1 hL ?_
      refine to_cell e2 c2 hL ?_
      obtain ⟨u, v, f1, f2, f3, f4, f5⟩ := rel_image (thrown := thrown) (fs := fs) (sp := sp) (a := a) (b := b) (mx := mx) (arr := arr) hF h (xs (nI (i + 1)).toNatClampNeg) (xs (nI (i + 2)).toNatClampNeg)
      refine to_bind f1 ?_
      refine to_cell e1 c1 hL ?_
      refine to_cell e2 c2 hL ?_
      refine to_bind f2 ?_
      refine to_bind (u := v.2.1) rfl ?_
      refine to_yes f3 ?_
      refine to_ite (fun hz => ?_) (fun _ => ?_)
      · refine to_ck0 ?_
        refine to_yes (cmp_eq.mpr (f4 hz)) ?_
        rw [b_La_law_577]
        exact go _ _ _ _ _ _ _ _ _ _ _ _ _ _ _ _ _ _ _ _ _ _ _ _ _ _ _ _ _ _ _ _ _ _ _ _ _ _ _ _ _ _ _ _ _ _ _ _ hi f5
      · rw [b_La_law_577]
        exact go _ _ _ _ _ _ _ _ _ _ _ _ _ _ _ _ _ _ _ _ _ _ _ _ _ _ _ _ _ _ _ _ _ _ _ _ _ _ _ _ _ _ _ _ _ _ _ _ hi f5
    refine to_ite (fun _ => ?_) (fun _ => ?_)
    · refine to_cell e1 c1 hL ?_
      obtain ⟨u, v, f1, f2, f3, f4⟩ := rel_total (thrown := thrown) (sp := sp) (a := a) (b := b) (mx := mx) hF h (xs (nI (i + 1)).toNatClampNeg)
      refine to_bind f1 ?_
      refine to_cell e1 c1 hL ?_
      refine to_bind f2 ?_
      refine to_yes f3 ?_
      exact go _ _ _ _ _ _ _ _ _ _ _ _ _ _ _ _ _ _ _ _ _ _ _ _ _ _ _ _ _ _ _ _ _ _ _ _ _ _ _ _ _ _ _ _ _ _ _ _ hi f4
    exact go _ _ _ _ _ _ _ _ _ _ _ _ _ _ _ _ _ _ _ _ _ _ _ _ _ _ _ _ _ _ _ _ _ _ _ _ _ _ _ _ _ _ _ _ _ _ _ _ hi h
end
