theorem d_Su_insert_0 : decode prog_3_method_8_code 0 = .ok (.aload_n 0, 1) := by decide +kernel
theorem d_Su_insert_1 : decode prog_3_method_8_code 1 = .ok (.getfield 24, 3) := by decide +kernel
theorem d_Su_insert_4 : decode prog_3_method_8_code 4 = .ok (.istore 4, 2) := by decide +kernel
theorem d_Su_insert_6 : decode prog_3_method_8_code 6 = .ok (.iload 4, 2) := by decide +kernel
theorem d_Su_insert_8 : decode prog_3_method_8_code 8 = .ok (.iload_n 1, 1) := by decide +kernel
theorem d_Su_insert_9 : decode prog_3_method_8_code 9 = .ok (.if_icmp .le 41, 3) := by decide +kernel
theorem d_Su_insert_12 : decode prog_3_method_8_code 12 = .ok (.aload_n 0, 1) := by decide +kernel
theorem d_Su_insert_13 : decode prog_3_method_8_code 13 = .ok (.getfield 9, 3) := by decide +kernel
theorem d_Su_insert_16 : decode prog_3_method_8_code 16 = .ok (.iload 4, 2) := by decide +kernel
theorem d_Su_insert_18 : decode prog_3_method_8_code 18 = .ok (.aload_n 0, 1) := by decide +kernel
theorem d_Su_insert_19 : decode prog_3_method_8_code 19 = .ok (.getfield 9, 3) := by decide +kernel
theorem d_Su_insert_22 : decode prog_3_method_8_code 22 = .ok (.iload 4, 2) := by decide +kernel
theorem d_Su_insert_24 : decode prog_3_method_8_code 24 = .ok (.iconst 1, 1) := by decide +kernel
theorem d_Su_insert_25 : decode prog_3_method_8_code 25 = .ok (.isub, 1) := by decide +kernel
theorem d_Su_insert_26 : decode prog_3_method_8_code 26 = .ok (.iaload, 1) := by decide +kernel
theorem d_Su_insert_27 : decode prog_3_method_8_code 27 = .ok (.iastore, 1) := by decide +kernel
theorem d_Su_insert_28 : decode prog_3_method_8_code 28 = .ok (.aload_n 0, 1) := by decide +kernel
theorem d_Su_insert_29 : decode prog_3_method_8_code 29 = .ok (.getfield 15, 3) := by decide +kernel
theorem d_Su_insert_32 : decode prog_3_method_8_code 32 = .ok (.iload 4, 2) := by decide +kernel
theorem d_Su_insert_34 : decode prog_3_method_8_code 34 = .ok (.aload_n 0, 1) := by decide +kernel
theorem d_Su_insert_35 : decode prog_3_method_8_code 35 = .ok (.getfield 15, 3) := by decide +kernel
theorem d_Su_insert_38 : decode prog_3_method_8_code 38 = .ok (.iload 4, 2) := by decide +kernel
theorem d_Su_insert_40 : decode prog_3_method_8_code 40 = .ok (.iconst 1, 1) := by decide +kernel
theorem d_Su_insert_41 : decode prog_3_method_8_code 41 = .ok (.isub, 1) := by decide +kernel
theorem d_Su_insert_42 : decode prog_3_method_8_code 42 = .ok (.iaload, 1) := by decide +kernel
theorem d_Su_insert_43 : decode prog_3_method_8_code 43 = .ok (.iastore, 1) := by decide +kernel
theorem d_Su_insert_44 : decode prog_3_method_8_code 44 = .ok (.iinc 4 (-1), 3) := by decide +kernel
theorem d_Su_insert_47 : decode prog_3_method_8_code 47 = .ok (.goto (-41), 3) := by decide +kernel
theorem d_Su_insert_50 : decode prog_3_method_8_code 50 = .ok (.aload_n 0, 1) := by decide +kernel
theorem d_Su_insert_51 : decode prog_3_method_8_code 51 = .ok (.getfield 9, 3) := by decide +kernel
theorem d_Su_insert_54 : decode prog_3_method_8_code 54 = .ok (.iload_n 1, 1) := by decide +kernel
theorem d_Su_insert_55 : decode prog_3_method_8_code 55 = .ok (.iload_n 2, 1) := by decide +kernel
theorem d_Su_insert_56 : decode prog_3_method_8_code 56 = .ok (.iastore, 1) := by decide +kernel
theorem d_Su_insert_57 : decode prog_3_method_8_code 57 = .ok (.aload_n 0, 1) := by decide +kernel
theorem d_Su_insert_58 : decode prog_3_method_8_code 58 = .ok (.getfield 15, 3) := by decide +kernel
theorem d_Su_insert_61 : decode prog_3_method_8_code 61 = .ok (.iload_n 1, 1) := by decide +kernel
theorem d_Su_insert_62 : decode prog_3_method_8_code 62 = .ok (.iload_n 3, 1) := by decide +kernel
theorem d_Su_insert_63 : decode prog_3_method_8_code 63 = .ok (.iastore, 1) := by decide +kernel
theorem d_Su_insert_64 : decode prog_3_method_8_code 64 = .ok (.aload_n 0, 1) := by decide +kernel
theorem d_Su_insert_65 : decode prog_3_method_8_code 65 = .ok (.dup, 1) := by decide +kernel
theorem d_Su_insert_66 : decode prog_3_method_8_code 66 = .ok (.getfield 24, 3) := by decide +kernel
theorem d_Su_insert_69 : decode prog_3_method_8_code 69 = .ok (.iconst 1, 1) := by decide +kernel
theorem d_Su_insert_70 : decode prog_3_method_8_code 70 = .ok (.iadd, 1) := by decide +kernel
theorem d_Su_insert_71 : decode prog_3_method_8_code 71 = .ok (.putfield 24, 3) := by decide +kernel
theorem d_Su_insert_74 : decode prog_3_method_8_code 74 = .ok (.return_, 1) := by decide +kernel
/-! FermionMaps$Sum.insert(III)V -/
def b_Su_insert_6 (F : Nat) : Nat → Int32 → Int32 → Int32 → Int32 → Int32 → (Nat → Int32) → (Nat → Int32) → Option (Int32 × (Nat → Int32) × (Nat → Int32))
  | 0, _, _, _, _, _, _, _ => none
  | n + 1, x1, x2, x3, x4, count, keys, numbers =>
    if x4 ≤ x1 then
      ckI x1 60 <|
      ckI x1 60 <|
      nm ((count + 1) : Int32) fun count_4 =>
      some (count_4, (upd keys x1.toNatClampNeg x2), (upd numbers x1.toNatClampNeg x3))
    else
      nm ((x4 - 1) : Int32) fun t_5 =>
      ckI t_5 60 <|
      nm ((keys t_5.toNatClampNeg) : Int32) fun t_7 =>
      ckI x4 60 <|
      nm ((x4 - 1) : Int32) fun t_9 =>
      ckI t_9 60 <|
      nm ((numbers t_9.toNatClampNeg) : Int32) fun t_11 =>
      ckI x4 60 <|
      nm (x4 + (-1) : Int32) fun x4_13 =>
      b_Su_insert_6 F n x1 x2 x3 x4_13 count (upd keys x4.toNatClampNeg t_7) (upd numbers x4.toNatClampNeg t_11)
def f_Su_insert (F : Nat) (count : Int32) (keys : Nat → Int32) (numbers : Nat → Int32) (p1 : Int32) (p2 : Int32) (p3 : Int32) : Option (Int32 × (Nat → Int32) × (Nat → Int32)) :=
  b_Su_insert_6 F F p1 p2 p3 count count keys numbers
abbrev rm_Su_insert : Room := { frames := 0, cells := 0, slots := 0, locals := 0 }
set_option maxHeartbeats 4000000 in
set_option maxRecDepth 100000 in
theorem c_Su_insert (l : Launch) (dC : Nat → ClassId) (dI : Nat → Nat → Nat) (cI cJ : ClassId) (a_p0 a_keys a_numbers z_spareKeys z_spareNumbers : Nat) (sz : Nat) (count : Int32) (keys : Nat → Int32) (numbers : Nat → Int32) (p1 : Int32) (p2 : Int32) (p3 : Int32) (F : Nat) (u : Int32 × (Nat → Int32) × (Nat → Int32)) (hf : f_Su_insert F count keys numbers p1 p2 p3 = some u) : Met l y_Su_insert (Cond.code y_Su_insert prog_3_method_8_code 5 none :: T0) rm_Su_insert (va_Pc [.ref a_p0, .int p1, .int p2, .int p3] (Ww (dC, dI) [(a_p0, .inr (1, [.ref a_keys, .ref a_numbers, .ref z_spareKeys, .ref z_spareNumbers, .int count])), (a_keys, .inl (cI, 60, .inl keys)), (a_numbers, .inl (cI, 60, .inl numbers))] [(cI, .int), (cJ, .long)] sz)) (va_Qv (fun _ : Unit => True) (Bw (dC, dI) [(cI, .int), (cJ, .long)] (va_A [(a_p0, .inr (1, [.ref a_keys, .ref a_numbers, .ref z_spareKeys, .ref z_spareNumbers, .int count])), (a_keys, .inl (cI, 60, .inl keys)), (a_numbers, .inl (cI, 60, .inl numbers))] sz) (fun w1 => w1 = [(a_p0, .inr (1, [.ref a_keys, .ref a_numbers, .ref z_spareKeys, .ref z_spareNumbers, .int u.1])), (a_keys, .inl (cI, 60, .inl u.2.1)), (a_numbers, .inl (cI, 60, .inl u.2.2))])) (va_A [(a_p0, .inr (1, [.ref a_keys, .ref a_numbers, .ref z_spareKeys, .ref z_spareNumbers, .int count])), (a_keys, .inl (cI, 60, .inl keys)), (a_numbers, .inl (cI, 60, .inl numbers))] sz)) 0 0 (va_A [(a_p0, .inr (1, [.ref a_keys, .ref a_numbers, .ref z_spareKeys, .ref z_spareNumbers, .int count])), (a_keys, .inl (cI, 60, .inl keys)), (a_numbers, .inl (cI, 60, .inl numbers))] sz) := by
  refine Met.ofW (cc := prog_3_method_8_code) (maxL := 5) (ret := none) (by decide) rfl ?_
  intro p e s m args below meth c s₁ B hml hv
  obtain ⟨rfl, hsz, hP, hK, hD0, hNW⟩ := hv
  have hx := B.exec
  have hb := B.bytes
  have hr := B.returns
  have hts := atoms_spec (ws := Cond.code y_Su_insert prog_3_method_8_code 5 none :: T0) B.pre
  have ht0 : ∀ w ∈ T0, w.before ([.ref a_p0, .int p1, .int p2, .int p3] : List Value).toArray s = true := fun w h => hts w (List.mem_cons_of_mem _ h)
  have hown : s.vm.findClass "FermionMaps$Sum" = some m.cls := findClass_of_methodNamed B.named
  have hlocks := B.notSynchronized
  subst hsz
  have hD := hD0.self (sz := s.heap.size)
  generalize hAe : va_A [(a_p0, .inr (1, [.ref a_keys, .ref a_numbers, .ref z_spareKeys, .ref z_spareNumbers, .int count])), (a_keys, .inl (cI, 60, .inl keys)), (a_numbers, .inl (cI, 60, .inl numbers))] s.heap.size = A at hD ⊢
  have hA : ∀ q : Nat, s.heap.size ≤ q → A q := fun q h => by rw [← hAe]; exact Or.inr h
  have hS : va_S A s.heap s.heap [] := va_S.rf
  have hl := lv_entry ([.ref a_p0, .int p1, .int p2, .int p3]) (n := 5) (Nat.le_of_ble_eq_true rfl)
  rw [lg_entry_eq]
  generalize (lg_sl ([.ref a_p0, .int p1, .int p2, .int p3]) ++ List.replicate (5 - (lg_sl ([.ref a_p0, .int p1, .int p2, .int p3])).length) Slot.unset).toArray = ls at hl ⊢
  have hl : lv_has ls 5 [(0, .ref a_p0), (1, .int p1), (2, .int p2), (3, .int p3)] := hl
  refine W.nameQ (fun Q hQ => ?_)
  have B_6 : ∀ (n : Nat), ∀ (x1 : Int32) (x2 : Int32) (x3 : Int32) (x4 : Int32) (count : Int32) (keys : Nat → Int32) (numbers : Nat → Int32) (H : Heap) (locs : List Loc) (ls : Array Slot), b_Su_insert_6 F n x1 x2 x3 x4 count keys numbers = some u → va_P (dC, dI) cls [(a_p0, .inr (1, [.ref a_keys, .ref a_numbers, .ref z_spareKeys, .ref z_spareNumbers, .int count])), (a_keys, .inl (cI, 60, .inl keys)), (a_numbers, .inl (cI, 60, .inl numbers))] H → va_D A [(a_p0, .inr (1, [.ref a_keys, .ref a_numbers, .ref z_spareKeys, .ref z_spareNumbers, .int count])), (a_keys, .inl (cI, 60, .inl keys)), (a_numbers, .inl (cI, 60, .inl numbers))] → va_S A s.heap H locs → lv_has ls 5 [(0, .ref a_p0), (1, .int x1), (2, .int x2), (3, .int x3), (4, .int x4)] → W p l e (headSpec (Cond.code y_Su_insert prog_3_method_8_code 5 none :: T0) rm_Su_insert).room s m ([.ref a_p0, .int p1, .int p2, .int p3] : List Value).toArray below meth c H locs 0 0 Q (F0 m 6 ls []) := by
    intro n
    induction n with
    | zero =>
      intro x1 x2 x3 x4 count keys numbers H locs ls hf hP hD hS hl
      exact no_fuel hf
    | succ n ih =>
      intro x1 x2 x3 x4 count keys numbers H locs ls hf hP hD hS hl
      rw [b_Su_insert_6] at hf
      refine lv_iload hx hb d_Su_insert_6 (lv_at hl 4 rfl) ?_
      refine lv_iload_n hx hb d_Su_insert_8 rfl (lv_at hl 1 rfl) ?_
      refine lv_icmp_le (tgt := 50) hx hb d_Su_insert_9 (by decide) (fun c_1 => ?_) (fun c_1 => ?_)
      · replace hf := if_t c_1 hf
        refine lv_aload_n hx hb d_Su_insert_50 rfl (lv_at hl 0 rfl) ?_
        refine va_get (D := (dC, dI)) (ci := 1) (v := .ref a_keys) (C := "FermionMaps$Sum") (T := F_Su) (N := 5) hx hb ht0 i_Su hown hK hP 0 rfl rfl 0 (by decide) (ht0 _ m_26) (fun _ h9 => h9) rfl d_Su_insert_51 ?_
        refine lv_iload_n hx hb d_Su_insert_54 rfl (lv_at hl 1 rfl) ?_
        refine lv_iload_n hx hb d_Su_insert_55 rfl (lv_at hl 2 rfl) ?_
        obtain ⟨hi_2, hf⟩ := ckI_ok hf
        refine va_iast hx hb hK hP hD hS 1 0 rfl rfl hi_2 d_Su_insert_56 (fun H locs hP hD hS => ?_)
        have hP : va_P (dC, dI) cls [(a_p0, .inr (1, [.ref a_keys, .ref a_numbers, .ref z_spareKeys, .ref z_spareNumbers, .int count])), (a_keys, .inl (cI, 60, .inl (upd keys x1.toNatClampNeg x2))), (a_numbers, .inl (cI, 60, .inl numbers))] H := hP
        have hD : va_D A [(a_p0, .inr (1, [.ref a_keys, .ref a_numbers, .ref z_spareKeys, .ref z_spareNumbers, .int count])), (a_keys, .inl (cI, 60, .inl (upd keys x1.toNatClampNeg x2))), (a_numbers, .inl (cI, 60, .inl numbers))] := hD
        refine lv_aload_n hx hb d_Su_insert_57 rfl (lv_at hl 0 rfl) ?_
        refine va_get (D := (dC, dI)) (ci := 1) (v := .ref a_numbers) (C := "FermionMaps$Sum") (T := F_Su) (N := 5) hx hb ht0 i_Su hown hK hP 0 rfl rfl 1 (by decide) (ht0 _ m_27) (fun _ h9 => h9) rfl d_Su_insert_58 ?_
        refine lv_iload_n hx hb d_Su_insert_61 rfl (lv_at hl 1 rfl) ?_
        refine lv_iload_n hx hb d_Su_insert_62 rfl (lv_at hl 3 rfl) ?_
        obtain ⟨hi_3, hf⟩ := ckI_ok hf
        refine va_iast hx hb hK hP hD hS 2 0 rfl rfl hi_3 d_Su_insert_63 (fun H locs hP hD hS => ?_)
        have hP : va_P (dC, dI) cls [(a_p0, .inr (1, [.ref a_keys, .ref a_numbers, .ref z_spareKeys, .ref z_spareNumbers, .int count])), (a_keys, .inl (cI, 60, .inl (upd keys x1.toNatClampNeg x2))), (a_numbers, .inl (cI, 60, .inl (upd numbers x1.toNatClampNeg x3)))] H := hP
        have hD : va_D A [(a_p0, .inr (1, [.ref a_keys, .ref a_numbers, .ref z_spareKeys, .ref z_spareNumbers, .int count])), (a_keys, .inl (cI, 60, .inl (upd keys x1.toNatClampNeg x2))), (a_numbers, .inl (cI, 60, .inl (upd numbers x1.toNatClampNeg x3)))] := hD
        refine lv_aload_n hx hb d_Su_insert_64 rfl (lv_at hl 0 rfl) ?_
        refine lv_dup hx hb d_Su_insert_65 rfl ?_
        refine va_get (D := (dC, dI)) (ci := 1) (v := .int count) (C := "FermionMaps$Sum") (T := F_Su) (N := 5) hx hb ht0 i_Su hown hK hP 0 rfl rfl 4 (by decide) (ht0 _ m_32) (fun _ h9 => h9) rfl d_Su_insert_66 ?_
        refine lv_iconst (v := 1) hx hb d_Su_insert_69 (by decide) ?_
        refine lv_iadd hx hb d_Su_insert_70 ?_
        refine lv_topi (fun count_4 e_count_4 => ?_)
        replace hf := nm_eq e_count_4 hf
        refine va_put (D := (dC, dI)) (ci := 1) (v := .int count_4) (ty := .int) (C := "FermionMaps$Sum") (T := F_Su) (N := 5) hx hb ht0 i_Su t_Su t_Su_ok n_Su hown hK hP hD hS 0 rfl rfl 4 (by decide) (ht0 _ m_32) (fun _ h9 => h9) rfl (by decide +kernel) rfl rfl (Nat.le_of_ble_eq_true rfl) d_Su_insert_71 (fun H locs hP hD hS => ?_)
        have hP : va_P (dC, dI) cls [(a_p0, .inr (1, [.ref a_keys, .ref a_numbers, .ref z_spareKeys, .ref z_spareNumbers, .int count_4])), (a_keys, .inl (cI, 60, .inl (upd keys x1.toNatClampNeg x2))), (a_numbers, .inl (cI, 60, .inl (upd numbers x1.toNatClampNeg x3)))] H := hP
        have hD : va_D A [(a_p0, .inr (1, [.ref a_keys, .ref a_numbers, .ref z_spareKeys, .ref z_spareNumbers, .int count_4])), (a_keys, .inl (cI, 60, .inl (upd keys x1.toNatClampNeg x2))), (a_numbers, .inl (cI, 60, .inl (upd numbers x1.toNatClampNeg x3)))] := hD
        have hu := Option.some.inj hf
        subst hu
        exact rw_v hQ rfl hP hD hK hS hx hb hr hlocks d_Su_insert_74
      · replace hf := if_f c_1 hf
        refine lv_aload_n hx hb d_Su_insert_12 rfl (lv_at hl 0 rfl) ?_
        refine va_get (D := (dC, dI)) (ci := 1) (v := .ref a_keys) (C := "FermionMaps$Sum") (T := F_Su) (N := 5) hx hb ht0 i_Su hown hK hP 0 rfl rfl 0 (by decide) (ht0 _ m_26) (fun _ h9 => h9) rfl d_Su_insert_13 ?_
        refine lv_iload hx hb d_Su_insert_16 (lv_at hl 4 rfl) ?_
        refine lv_aload_n hx hb d_Su_insert_18 rfl (lv_at hl 0 rfl) ?_
        refine va_get (D := (dC, dI)) (ci := 1) (v := .ref a_keys) (C := "FermionMaps$Sum") (T := F_Su) (N := 5) hx hb ht0 i_Su hown hK hP 0 rfl rfl 0 (by decide) (ht0 _ m_26) (fun _ h9 => h9) rfl d_Su_insert_19 ?_
        refine lv_iload hx hb d_Su_insert_22 (lv_at hl 4 rfl) ?_
        refine lv_iconst (v := 1) hx hb d_Su_insert_24 (by decide) ?_
        refine lv_isub hx hb d_Su_insert_25 ?_
        refine lv_topi (fun t_5 e_t_5 => ?_)
        replace hf := nm_eq e_t_5 hf
        obtain ⟨hi_6, hf⟩ := ckI_ok hf
        refine va_iald hx hb hK hP 1 0 rfl rfl hi_6 d_Su_insert_26 ?_
        refine lv_topi (fun t_7 e_t_7 => ?_)
        replace hf := nm_eq e_t_7 hf
        obtain ⟨hi_8, hf⟩ := ckI_ok hf
        refine va_iast hx hb hK hP hD hS 1 0 rfl rfl hi_8 d_Su_insert_27 (fun H locs hP hD hS => ?_)
        have hP : va_P (dC, dI) cls [(a_p0, .inr (1, [.ref a_keys, .ref a_numbers, .ref z_spareKeys, .ref z_spareNumbers, .int count])), (a_keys, .inl (cI, 60, .inl (upd keys x4.toNatClampNeg t_7))), (a_numbers, .inl (cI, 60, .inl numbers))] H := hP
        have hD : va_D A [(a_p0, .inr (1, [.ref a_keys, .ref a_numbers, .ref z_spareKeys, .ref z_spareNumbers, .int count])), (a_keys, .inl (cI, 60, .inl (upd keys x4.toNatClampNeg t_7))), (a_numbers, .inl (cI, 60, .inl numbers))] := hD
        refine lv_aload_n hx hb d_Su_insert_28 rfl (lv_at hl 0 rfl) ?_
        refine va_get (D := (dC, dI)) (ci := 1) (v := .ref a_numbers) (C := "FermionMaps$Sum") (T := F_Su) (N := 5) hx hb ht0 i_Su hown hK hP 0 rfl rfl 1 (by decide) (ht0 _ m_27) (fun _ h9 => h9) rfl d_Su_insert_29 ?_
        refine lv_iload hx hb d_Su_insert_32 (lv_at hl 4 rfl) ?_
        refine lv_aload_n hx hb d_Su_insert_34 rfl (lv_at hl 0 rfl) ?_
        refine va_get (D := (dC, dI)) (ci := 1) (v := .ref a_numbers) (C := "FermionMaps$Sum") (T := F_Su) (N := 5) hx hb ht0 i_Su hown hK hP 0 rfl rfl 1 (by decide) (ht0 _ m_27) (fun _ h9 => h9) rfl d_Su_insert_35 ?_
        refine lv_iload hx hb d_Su_insert_38 (lv_at hl 4 rfl) ?_
        refine lv_iconst (v := 1) hx hb d_Su_insert_40 (by decide) ?_
        refine lv_isub hx hb d_Su_insert_41 ?_
        refine lv_topi (fun t_9 e_t_9 => ?_)
        replace hf := nm_eq e_t_9 hf
        obtain ⟨hi_10, hf⟩ := ckI_ok hf
        refine va_iald hx hb hK hP 2 0 rfl rfl hi_10 d_Su_insert_42 ?_
        refine lv_topi (fun t_11 e_t_11 => ?_)
        replace hf := nm_eq e_t_11 hf
        obtain ⟨hi_12, hf⟩ := ckI_ok hf
        refine va_iast hx hb hK hP hD hS 2 0 rfl rfl hi_12 d_Su_insert_43 (fun H locs hP hD hS => ?_)
        have hP : va_P (dC, dI) cls [(a_p0, .inr (1, [.ref a_keys, .ref a_numbers, .ref z_spareKeys, .ref z_spareNumbers, .int count])), (a_keys, .inl (cI, 60, .inl (upd keys x4.toNatClampNeg t_7))), (a_numbers, .inl (cI, 60, .inl (upd numbers x4.toNatClampNeg t_11)))] H := hP
        have hD : va_D A [(a_p0, .inr (1, [.ref a_keys, .ref a_numbers, .ref z_spareKeys, .ref z_spareNumbers, .int count])), (a_keys, .inl (cI, 60, .inl (upd keys x4.toNatClampNeg t_7))), (a_numbers, .inl (cI, 60, .inl (upd numbers x4.toNatClampNeg t_11)))] := hD
        obtain ⟨x4_13, e_x4_13⟩ : ∃ y : Int32, y = x4 + (-1) := ⟨_, rfl⟩
        replace hf := nm_eq e_x4_13 hf
        refine lv_iinc (v := x4_13) (lv' := [(4, .int x4_13), (0, .ref a_p0), (1, .int x1), (2, .int x2), (3, .int x3)]) hx hb d_Su_insert_44 hl (k := 4) rfl (by rw [e_x4_13]; rfl) (by decide) rfl (fun ls hl => ?_)
        refine lv_goto (tgt := 6) hx hb d_Su_insert_47 (by decide) ?_
        exact ih x1 x2 x3 x4_13 count (upd keys x4.toNatClampNeg t_7) (upd numbers x4.toNatClampNeg t_11) H locs ls hf hP hD hS (lv_sub hl [1, 2, 3, 4, 0] rfl)
  rw [f_Su_insert] at hf
  refine lv_aload_n hx hb d_Su_insert_0 rfl (lv_at hl 0 rfl) ?_
  refine va_get (D := (dC, dI)) (ci := 1) (v := .int count) (C := "FermionMaps$Sum") (T := F_Su) (N := 5) hx hb ht0 i_Su hown hK hP 0 rfl rfl 4 (by decide) (ht0 _ m_32) (fun _ h9 => h9) rfl d_Su_insert_1 ?_
  refine lv_istore (lv' := [(4, .int count), (0, .ref a_p0), (1, .int p1), (2, .int p2), (3, .int p3)]) hx hb d_Su_insert_4 hl (by decide) rfl (fun ls hl => ?_)
  exact B_6 F p1 p2 p3 count count keys numbers s.heap [] ls hf hP hD hS (lv_sub hl [1, 2, 3, 4, 0] rfl)
