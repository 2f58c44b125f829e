theorem d_La_product_0 : decode method_3_code 0 = .ok (.aload_n 3, 1) := by decide +kernel
theorem d_La_product_1 : decode method_3_code 1 = .ok (.iconst 0, 1) := by decide +kernel
theorem d_La_product_2 : decode method_3_code 2 = .ok (.aload_n 0, 1) := by decide +kernel
theorem d_La_product_3 : decode method_3_code 3 = .ok (.iload_n 1, 1) := by decide +kernel
theorem d_La_product_4 : decode method_3_code 4 = .ok (.iload_n 2, 1) := by decide +kernel
theorem d_La_product_5 : decode method_3_code 5 = .ok (.invokevirtual 7, 3) := by decide +kernel
theorem d_La_product_8 : decode method_3_code 8 = .ok (.i2l, 1) := by decide +kernel
theorem d_La_product_9 : decode method_3_code 9 = .ok (.lastore, 1) := by decide +kernel
theorem d_La_product_10 : decode method_3_code 10 = .ok (.goto 7, 3) := by decide +kernel
theorem d_La_product_13 : decode method_3_code 13 = .ok (.astore 4, 2) := by decide +kernel
theorem d_La_product_15 : decode method_3_code 15 = .ok (.iconst 1, 1) := by decide +kernel
theorem d_La_product_16 : decode method_3_code 16 = .ok (.ireturn, 1) := by decide +kernel
theorem d_La_product_17 : decode method_3_code 17 = .ok (.iconst 0, 1) := by decide +kernel
theorem d_La_product_18 : decode method_3_code 18 = .ok (.ireturn, 1) := by decide +kernel
theorem d_La_makes_0 : decode method_4_code 0 = .ok (.aload_n 3, 1) := by decide +kernel
theorem d_La_makes_1 : decode method_4_code 1 = .ok (.iconst 0, 1) := by decide +kernel
theorem d_La_makes_2 : decode method_4_code 2 = .ok (.aload_n 0, 1) := by decide +kernel
theorem d_La_makes_3 : decode method_4_code 3 = .ok (.iload_n 1, 1) := by decide +kernel
theorem d_La_makes_4 : decode method_4_code 4 = .ok (.iload_n 2, 1) := by decide +kernel
theorem d_La_makes_5 : decode method_4_code 5 = .ok (.invokevirtual 15, 3) := by decide +kernel
theorem d_La_makes_8 : decode method_4_code 8 = .ok (.lastore, 1) := by decide +kernel
theorem d_La_makes_9 : decode method_4_code 9 = .ok (.goto 7, 3) := by decide +kernel
theorem d_La_makes_12 : decode method_4_code 12 = .ok (.astore 4, 2) := by decide +kernel
theorem d_La_makes_14 : decode method_4_code 14 = .ok (.iconst 1, 1) := by decide +kernel
theorem d_La_makes_15 : decode method_4_code 15 = .ok (.ireturn, 1) := by decide +kernel
theorem d_La_makes_16 : decode method_4_code 16 = .ok (.iconst 0, 1) := by decide +kernel
theorem d_La_makes_17 : decode method_4_code 17 = .ok (.ireturn, 1) := by decide +kernel
theorem d_La_image_0 : decode method_5_code 0 = .ok (.aload_n 3, 1) := by decide +kernel
theorem d_La_image_1 : decode method_5_code 1 = .ok (.iconst 0, 1) := by decide +kernel
theorem d_La_image_2 : decode method_5_code 2 = .ok (.aload_n 0, 1) := by decide +kernel
theorem d_La_image_3 : decode method_5_code 3 = .ok (.iload_n 1, 1) := by decide +kernel
theorem d_La_image_4 : decode method_5_code 4 = .ok (.iload_n 2, 1) := by decide +kernel
theorem d_La_image_5 : decode method_5_code 5 = .ok (.invokevirtual 19, 3) := by decide +kernel
theorem d_La_image_8 : decode method_5_code 8 = .ok (.lastore, 1) := by decide +kernel
theorem d_La_image_9 : decode method_5_code 9 = .ok (.goto 7, 3) := by decide +kernel
theorem d_La_image_12 : decode method_5_code 12 = .ok (.astore 4, 2) := by decide +kernel
theorem d_La_image_14 : decode method_5_code 14 = .ok (.iconst 1, 1) := by decide +kernel
theorem d_La_image_15 : decode method_5_code 15 = .ok (.ireturn, 1) := by decide +kernel
theorem d_La_image_16 : decode method_5_code 16 = .ok (.iconst 0, 1) := by decide +kernel
theorem d_La_image_17 : decode method_5_code 17 = .ok (.ireturn, 1) := by decide +kernel
/-! FermionMapsLaw.product(LFermionMaps;II[J)I -/
def f_La_product (F : Nat) (sum_count : Int32) (sum_keys : Nat → Int32) (sum_numbers : Nat → Int32) (arr3 : Nat → Int64) (p1 : Int32) (p2 : Int32) : Option (Int32 × (Nat → Int64)) :=
  (f_FM_product F sum_count sum_keys sum_numbers p1 p2).bind fun u_1 =>
  opt u_1 (
    some (1, arr3)
    ) fun v_2 =>
  nm ((v_2.toInt64) : Int64) fun t_4 =>
  ckI 0 1 <|
  some (0, (vp_updL arr3 (0 : Int32).toNatClampNeg t_4))
abbrev rm_La_product : Room := { frames := 7, cells := 1, slots := 6, locals := 112 }
set_option maxHeartbeats 4000000 in
set_option maxRecDepth 100000 in
theorem c_La_product (l : Launch) (hfl : l.flags = flags0) (s0 : State) (hF : ThF s0) (dC : Nat → ClassId) (dI : Nat → Nat → Nat) (cI cJ : ClassId) (a_p0 a_sum a_sum_keys a_sum_numbers a_p3 z_wiring z_picture z_sum_spareKeys z_sum_spareNumbers : Nat) (sz : Nat) (sum_count : Int32) (sum_keys : Nat → Int32) (sum_numbers : Nat → Int32) (arr3 : Nat → Int64) (p1 : Int32) (p2 : Int32) (F : Nat) (u : Int32 × (Nat → Int64)) (hf : f_La_product F sum_count sum_keys sum_numbers arr3 p1 p2 = some u) : Met l y_La_product (Cond.codeWith y_La_product method_3_code 5 (some .int) [(0, 10, 13, 13)] :: T0) rm_La_product (va_Pc [.ref a_p0, .int p1, .int p2, .ref a_p3] (Wx s0 (dC, dI) [(a_p0, .inr (3, [.ref a_sum, .ref z_wiring, .ref z_picture])), (a_sum, .inr (1, [.ref a_sum_keys, .ref a_sum_numbers, .ref z_sum_spareKeys, .ref z_sum_spareNumbers, .int sum_count])), (a_sum_keys, .inl (cI, 60, .inl sum_keys)), (a_sum_numbers, .inl (cI, 60, .inl sum_numbers)), (a_p3, .inl (cJ, 1, .inr (.inl arr3)))] [(cI, .int), (cJ, .long)] sz)) (va_Qi (fun r (_ : Unit) => r = u.1) (Bw (dC, dI) [(cI, .int), (cJ, .long)] (va_A [(a_p0, .inr (3, [.ref a_sum, .ref z_wiring, .ref z_picture])), (a_sum, .inr (1, [.ref a_sum_keys, .ref a_sum_numbers, .ref z_sum_spareKeys, .ref z_sum_spareNumbers, .int sum_count])), (a_sum_keys, .inl (cI, 60, .inl sum_keys)), (a_sum_numbers, .inl (cI, 60, .inl sum_numbers)), (a_p3, .inl (cJ, 1, .inr (.inl arr3)))] sz) (fun w1 => w1 = [(a_p0, .inr (3, [.ref a_sum, .ref z_wiring, .ref z_picture])), (a_sum, .inr (1, [.ref a_sum_keys, .ref a_sum_numbers, .ref z_sum_spareKeys, .ref z_sum_spareNumbers, .int sum_count])), (a_sum_keys, .inl (cI, 60, .inl sum_keys)), (a_sum_numbers, .inl (cI, 60, .inl sum_numbers)), (a_p3, .inl (cJ, 1, .inr (.inl u.2)))])) (va_A [(a_p0, .inr (3, [.ref a_sum, .ref z_wiring, .ref z_picture])), (a_sum, .inr (1, [.ref a_sum_keys, .ref a_sum_numbers, .ref z_sum_spareKeys, .ref z_sum_spareNumbers, .int sum_count])), (a_sum_keys, .inl (cI, 60, .inl sum_keys)), (a_sum_numbers, .inl (cI, 60, .inl sum_numbers)), (a_p3, .inl (cJ, 1, .inr (.inl arr3)))] sz)) 1 6 (va_A [(a_p0, .inr (3, [.ref a_sum, .ref z_wiring, .ref z_picture])), (a_sum, .inr (1, [.ref a_sum_keys, .ref a_sum_numbers, .ref z_sum_spareKeys, .ref z_sum_spareNumbers, .int sum_count])), (a_sum_keys, .inl (cI, 60, .inl sum_keys)), (a_sum_numbers, .inl (cI, 60, .inl sum_numbers)), (a_p3, .inl (cJ, 1, .inr (.inl arr3)))] sz) := by
  refine va_MetW (cc := method_3_code) (maxL := 5) (ret := (some .int)) (hh := [(0, 10, 13, 13)]) (by decide) rfl ?_
  intro p e s m args below meth c s₁ B hml hv
  obtain ⟨rfl, ⟨hsz, hP, hK, hD0, hNW⟩, hTZ⟩ := hv
  obtain ⟨x9, hone, hx1, hx2, hx3, hx4⟩ := one_handler B (List.mem_cons_self)
  have hx := B.exec
  have hb := B.bytes
  have hr := B.returns
  have hts := atoms_spec (ws := Cond.codeWith y_La_product method_3_code 5 (some .int) [(0, 10, 13, 13)] :: T0) B.pre
  have ht0 : ∀ w ∈ T0, w.before ([.ref a_p0, .int p1, .int p2, .ref a_p3] : List Value).toArray s = true := fun w h => hts w (List.mem_cons_of_mem _ h)
  have hown : s.vm.findClass "FermionMapsLaw" = some m.cls := findClass_of_methodNamed B.named
  have hlocks := B.notSynchronized
  subst hsz
  have hD := hD0.self (sz := s.heap.size)
  generalize hAe : va_A [(a_p0, .inr (3, [.ref a_sum, .ref z_wiring, .ref z_picture])), (a_sum, .inr (1, [.ref a_sum_keys, .ref a_sum_numbers, .ref z_sum_spareKeys, .ref z_sum_spareNumbers, .int sum_count])), (a_sum_keys, .inl (cI, 60, .inl sum_keys)), (a_sum_numbers, .inl (cI, 60, .inl sum_numbers)), (a_p3, .inl (cJ, 1, .inr (.inl arr3)))] s.heap.size = A at hD ⊢
  have hA : ∀ q : Nat, s.heap.size ≤ q → A q := fun q h => by rw [← hAe]; exact Or.inr h
  have hS : va_S A s.heap s.heap [] := va_S.rf
  have hl := lv_entry ([.ref a_p0, .int p1, .int p2, .ref a_p3]) (n := 5) (Nat.le_of_ble_eq_true rfl)
  rw [lg_entry_eq]
  generalize (lg_sl ([.ref a_p0, .int p1, .int p2, .ref a_p3]) ++ List.replicate (5 - (lg_sl ([.ref a_p0, .int p1, .int p2, .ref a_p3])).length) Slot.unset).toArray = ls at hl ⊢
  have hl : lv_has ls 5 [(0, .ref a_p0), (1, .int p1), (2, .int p2), (3, .ref a_p3)] := hl
  refine W.nameQ (fun Q hQ => ?_)
  rw [f_La_product] at hf
  refine lv_aload_n hx hb d_La_product_0 rfl (lv_at hl 3 rfl) ?_
  refine lv_iconst (v := 0) hx hb d_La_product_1 (by decide) ?_
  refine lv_aload_n hx hb d_La_product_2 rfl (lv_at hl 0 rfl) ?_
  refine lv_iload_n hx hb d_La_product_3 rfl (lv_at hl 1 rfl) ?_
  refine lv_iload_n hx hb d_La_product_4 rfl (lv_at hl 2 rfl) ?_
  obtain ⟨u_1, h_u_1, hf⟩ := bd hf
  refine cxV (wr := [(a_p3, .inl (cJ, 1, .inr (.inl arr3)))]) (As := [.int p1, .int p2]) (rest := [.int 0, .ref a_p3]) ⟨hx, hb, hml, hown, ht0⟩ (c_FM_product l hfl s0 hF dC dI cI cJ a_p0 a_sum a_sum_keys a_sum_numbers z_wiring z_picture z_sum_spareKeys z_sum_spareNumbers s.heap.size sum_count sum_keys sum_numbers p1 p2 F u_1 h_u_1) (cwV 2 ht0 (gV m_325 m_326 m_327 m_1 m_328) rfl rfl rfl (by decide +kernel) ⟨Nat.le_of_ble_eq_true rfl, Nat.le_of_ble_eq_true rfl⟩) hK hNW hTZ (fun _ _ => rfl) hP hD hS hA [0, 1, 2, 3] [4] rfl rfl rfl (by decide) (by decide) (by decide) (ci := 3) (q0 := 0) rfl rfl rfl hl.1 rfl (Nat.le_of_ble_eq_true rfl) d_La_product_5 ⟨Nat.le_of_ble_eq_true rfl, Nat.le_of_ble_eq_true rfl⟩ hone (by simp [covers, hx1, hx2]) hx4 (by decide) hx3 (ht0 _ m_324) (fun w_ hv_3 w1 H locs hw hP hD hS => ?_) (fun e_a hv_3 w1 H locs hw hP hD hS => ?_)
  · obtain ⟨v_2, e_v_2, rfl⟩ := mapS hv_3
    replace hf := opt_s e_v_2 hf
    obtain rfl := hw
    have hP : va_P (dC, dI) cls [(a_p0, .inr (3, [.ref a_sum, .ref z_wiring, .ref z_picture])), (a_sum, .inr (1, [.ref a_sum_keys, .ref a_sum_numbers, .ref z_sum_spareKeys, .ref z_sum_spareNumbers, .int sum_count])), (a_sum_keys, .inl (cI, 60, .inl sum_keys)), (a_sum_numbers, .inl (cI, 60, .inl sum_numbers)), (a_p3, .inl (cJ, 1, .inr (.inl arr3)))] H := hP.sub [1, 2, 3, 4, 0] rfl
    have hD : va_D A [(a_p0, .inr (3, [.ref a_sum, .ref z_wiring, .ref z_picture])), (a_sum, .inr (1, [.ref a_sum_keys, .ref a_sum_numbers, .ref z_sum_spareKeys, .ref z_sum_spareNumbers, .int sum_count])), (a_sum_keys, .inl (cI, 60, .inl sum_keys)), (a_sum_numbers, .inl (cI, 60, .inl sum_numbers)), (a_p3, .inl (cJ, 1, .inr (.inl arr3)))] := hD.sub [1, 2, 3, 4, 0] (by decide) rfl
    refine lv_i2l (v := v_2.toInt64) hx hb d_La_product_8 rfl ?_
    refine lv_topl (fun t_4 e_t_4 => ?_)
    replace hf := nm_eq e_t_4 hf
    obtain ⟨hi_5, hf⟩ := ckI_ok hf
    refine va_last hx hb hK hP hD hS 4 1 rfl rfl hi_5 d_La_product_9 (fun H locs hP hD hS => ?_)
    have hP : va_P (dC, dI) cls [(a_p0, .inr (3, [.ref a_sum, .ref z_wiring, .ref z_picture])), (a_sum, .inr (1, [.ref a_sum_keys, .ref a_sum_numbers, .ref z_sum_spareKeys, .ref z_sum_spareNumbers, .int sum_count])), (a_sum_keys, .inl (cI, 60, .inl sum_keys)), (a_sum_numbers, .inl (cI, 60, .inl sum_numbers)), (a_p3, .inl (cJ, 1, .inr (.inl (vp_updL arr3 (0 : Int32).toNatClampNeg t_4))))] H := hP
    have hD : va_D A [(a_p0, .inr (3, [.ref a_sum, .ref z_wiring, .ref z_picture])), (a_sum, .inr (1, [.ref a_sum_keys, .ref a_sum_numbers, .ref z_sum_spareKeys, .ref z_sum_spareNumbers, .int sum_count])), (a_sum_keys, .inl (cI, 60, .inl sum_keys)), (a_sum_numbers, .inl (cI, 60, .inl sum_numbers)), (a_p3, .inl (cJ, 1, .inr (.inl (vp_updL arr3 (0 : Int32).toNatClampNeg t_4))))] := hD
    refine lv_goto (tgt := 17) hx hb d_La_product_10 (by decide) ?_
    refine lv_iconst (v := 0) hx hb d_La_product_17 (by decide) ?_
    have hu := Option.some.inj hf
    subst hu
    exact rw_i hQ rfl rfl hP hD hK hS hx hb hr hlocks d_La_product_18
  · replace hf := opt_n (mapN hv_3) hf
    obtain rfl := hw
    have hP : va_P (dC, dI) cls [(a_p0, .inr (3, [.ref a_sum, .ref z_wiring, .ref z_picture])), (a_sum, .inr (1, [.ref a_sum_keys, .ref a_sum_numbers, .ref z_sum_spareKeys, .ref z_sum_spareNumbers, .int sum_count])), (a_sum_keys, .inl (cI, 60, .inl sum_keys)), (a_sum_numbers, .inl (cI, 60, .inl sum_numbers)), (a_p3, .inl (cJ, 1, .inr (.inl arr3)))] H := hP.sub [1, 2, 3, 4, 0] rfl
    have hD : va_D A [(a_p0, .inr (3, [.ref a_sum, .ref z_wiring, .ref z_picture])), (a_sum, .inr (1, [.ref a_sum_keys, .ref a_sum_numbers, .ref z_sum_spareKeys, .ref z_sum_spareNumbers, .int sum_count])), (a_sum_keys, .inl (cI, 60, .inl sum_keys)), (a_sum_numbers, .inl (cI, 60, .inl sum_numbers)), (a_p3, .inl (cJ, 1, .inr (.inl arr3)))] := hD.sub [1, 2, 3, 4, 0] (by decide) rfl
    refine lv_astore (lv' := [(4, .ref e_a), (0, .ref a_p0), (1, .int p1), (2, .int p2), (3, .ref a_p3)]) hx hb d_La_product_13 hl (by decide) rfl (fun ls hl => ?_)
    refine lv_iconst (v := 1) hx hb d_La_product_15 (by decide) ?_
    have hu := Option.some.inj hf
    subst hu
    exact rw_i hQ rfl rfl hP hD hK hS hx hb hr hlocks d_La_product_16

/-! FermionMapsLaw.makes(LFermionMaps;II[J)I -/
def f_La_makes (F : Nat) (sum_count : Int32) (sum_keys : Nat → Int32) (sum_numbers : Nat → Int32) (wiring_size : Int32) (arr3 : Nat → Int64) (p1 : Int32) (p2 : Int32) : Option (Int32 × (Nat → Int64)) :=
  (f_FM_makes F sum_count sum_keys sum_numbers wiring_size p1 p2).bind fun u_1 =>
  opt u_1 (
    some (1, arr3)
    ) fun v_2 =>
  ckI 0 1 <|
  some (0, (vp_updL arr3 (0 : Int32).toNatClampNeg v_2))
abbrev rm_La_makes : Room := { frames := 7, cells := 1, slots := 6, locals := 112 }
set_option maxHeartbeats 4000000 in
set_option maxRecDepth 100000 in
theorem c_La_makes (l : Launch) (hfl : l.flags = flags0) (s0 : State) (hF : ThF s0) (dC : Nat → ClassId) (dI : Nat → Nat → Nat) (cI cJ : ClassId) (a_p0 a_sum a_sum_keys a_sum_numbers a_wiring a_p3 z_picture z_sum_spareKeys z_sum_spareNumbers z_wiring_told z_wiring_rows z_wiring_back z_wiring_spareBack z_wiring_left : Nat) (sz : Nat) (sum_count : Int32) (sum_keys : Nat → Int32) (sum_numbers : Nat → Int32) (wiring_size : Int32) (wiring_kind : Int32) (arr3 : Nat → Int64) (p1 : Int32) (p2 : Int32) (F : Nat) (u : Int32 × (Nat → Int64)) (hf : f_La_makes F sum_count sum_keys sum_numbers wiring_size arr3 p1 p2 = some u) : Met l y_La_makes (Cond.codeWith y_La_makes method_4_code 5 (some .int) [(0, 9, 12, 13)] :: T0) rm_La_makes (va_Pc [.ref a_p0, .int p1, .int p2, .ref a_p3] (Wx s0 (dC, dI) [(a_p0, .inr (3, [.ref a_sum, .ref a_wiring, .ref z_picture])), (a_sum, .inr (1, [.ref a_sum_keys, .ref a_sum_numbers, .ref z_sum_spareKeys, .ref z_sum_spareNumbers, .int sum_count])), (a_sum_keys, .inl (cI, 60, .inl sum_keys)), (a_sum_numbers, .inl (cI, 60, .inl sum_numbers)), (a_wiring, .inr (2, [.ref z_wiring_told, .ref z_wiring_rows, .ref z_wiring_back, .ref z_wiring_spareBack, .ref z_wiring_left, .int wiring_size, .int wiring_kind])), (a_p3, .inl (cJ, 1, .inr (.inl arr3)))] [(cI, .int), (cJ, .long)] sz)) (va_Qi (fun r (_ : Unit) => r = u.1) (Bw (dC, dI) [(cI, .int), (cJ, .long)] (va_A [(a_p0, .inr (3, [.ref a_sum, .ref a_wiring, .ref z_picture])), (a_sum, .inr (1, [.ref a_sum_keys, .ref a_sum_numbers, .ref z_sum_spareKeys, .ref z_sum_spareNumbers, .int sum_count])), (a_sum_keys, .inl (cI, 60, .inl sum_keys)), (a_sum_numbers, .inl (cI, 60, .inl sum_numbers)), (a_wiring, .inr (2, [.ref z_wiring_told, .ref z_wiring_rows, .ref z_wiring_back, .ref z_wiring_spareBack, .ref z_wiring_left, .int wiring_size, .int wiring_kind])), (a_p3, .inl (cJ, 1, .inr (.inl arr3)))] sz) (fun w1 => w1 = [(a_p0, .inr (3, [.ref a_sum, .ref a_wiring, .ref z_picture])), (a_sum, .inr (1, [.ref a_sum_keys, .ref a_sum_numbers, .ref z_sum_spareKeys, .ref z_sum_spareNumbers, .int sum_count])), (a_sum_keys, .inl (cI, 60, .inl sum_keys)), (a_sum_numbers, .inl (cI, 60, .inl sum_numbers)), (a_wiring, .inr (2, [.ref z_wiring_told, .ref z_wiring_rows, .ref z_wiring_back, .ref z_wiring_spareBack, .ref z_wiring_left, .int wiring_size, .int wiring_kind])), (a_p3, .inl (cJ, 1, .inr (.inl u.2)))])) (va_A [(a_p0, .inr (3, [.ref a_sum, .ref a_wiring, .ref z_picture])), (a_sum, .inr (1, [.ref a_sum_keys, .ref a_sum_numbers, .ref z_sum_spareKeys, .ref z_sum_spareNumbers, .int sum_count])), (a_sum_keys, .inl (cI, 60, .inl sum_keys)), (a_sum_numbers, .inl (cI, 60, .inl sum_numbers)), (a_wiring, .inr (2, [.ref z_wiring_told, .ref z_wiring_rows, .ref z_wiring_back, .ref z_wiring_spareBack, .ref z_wiring_left, .int wiring_size, .int wiring_kind])), (a_p3, .inl (cJ, 1, .inr (.inl arr3)))] sz)) 1 6 (va_A [(a_p0, .inr (3, [.ref a_sum, .ref a_wiring, .ref z_picture])), (a_sum, .inr (1, [.ref a_sum_keys, .ref a_sum_numbers, .ref z_sum_spareKeys, .ref z_sum_spareNumbers, .int sum_count])), (a_sum_keys, .inl (cI, 60, .inl sum_keys)), (a_sum_numbers, .inl (cI, 60, .inl sum_numbers)), (a_wiring, .inr (2, [.ref z_wiring_told, .ref z_wiring_rows, .ref z_wiring_back, .ref z_wiring_spareBack, .ref z_wiring_left, .int wiring_size, .int wiring_kind])), (a_p3, .inl (cJ, 1, .inr (.inl arr3)))] sz) := by
  refine va_MetW (cc := method_4_code) (maxL := 5) (ret := (some .int)) (hh := [(0, 9, 12, 13)]) (by decide) rfl ?_
  intro p e s m args below meth c s₁ B hml hv
  obtain ⟨rfl, ⟨hsz, hP, hK, hD0, hNW⟩, hTZ⟩ := hv
  obtain ⟨x9, hone, hx1, hx2, hx3, hx4⟩ := one_handler B (List.mem_cons_self)
  have hx := B.exec
  have hb := B.bytes
  have hr := B.returns
  have hts := atoms_spec (ws := Cond.codeWith y_La_makes method_4_code 5 (some .int) [(0, 9, 12, 13)] :: T0) B.pre
  have ht0 : ∀ w ∈ T0, w.before ([.ref a_p0, .int p1, .int p2, .ref a_p3] : List Value).toArray s = true := fun w h => hts w (List.mem_cons_of_mem _ h)
  have hown : s.vm.findClass "FermionMapsLaw" = some m.cls := findClass_of_methodNamed B.named
  have hlocks := B.notSynchronized
  subst hsz
  have hD := hD0.self (sz := s.heap.size)
  generalize hAe : va_A [(a_p0, .inr (3, [.ref a_sum, .ref a_wiring, .ref z_picture])), (a_sum, .inr (1, [.ref a_sum_keys, .ref a_sum_numbers, .ref z_sum_spareKeys, .ref z_sum_spareNumbers, .int sum_count])), (a_sum_keys, .inl (cI, 60, .inl sum_keys)), (a_sum_numbers, .inl (cI, 60, .inl sum_numbers)), (a_wiring, .inr (2, [.ref z_wiring_told, .ref z_wiring_rows, .ref z_wiring_back, .ref z_wiring_spareBack, .ref z_wiring_left, .int wiring_size, .int wiring_kind])), (a_p3, .inl (cJ, 1, .inr (.inl arr3)))] s.heap.size = A at hD ⊢
  have hA : ∀ q : Nat, s.heap.size ≤ q → A q := fun q h => by rw [← hAe]; exact Or.inr h
  have hS : va_S A s.heap s.heap [] := va_S.rf
  have hl := lv_entry ([.ref a_p0, .int p1, .int p2, .ref a_p3]) (n := 5) (Nat.le_of_ble_eq_true rfl)
  rw [lg_entry_eq]
  generalize (lg_sl ([.ref a_p0, .int p1, .int p2, .ref a_p3]) ++ List.replicate (5 - (lg_sl ([.ref a_p0, .int p1, .int p2, .ref a_p3])).length) Slot.unset).toArray = ls at hl ⊢
  have hl : lv_has ls 5 [(0, .ref a_p0), (1, .int p1), (2, .int p2), (3, .ref a_p3)] := hl
  refine W.nameQ (fun Q hQ => ?_)
  rw [f_La_makes] at hf
  refine lv_aload_n hx hb d_La_makes_0 rfl (lv_at hl 3 rfl) ?_
  refine lv_iconst (v := 0) hx hb d_La_makes_1 (by decide) ?_
  refine lv_aload_n hx hb d_La_makes_2 rfl (lv_at hl 0 rfl) ?_
  refine lv_iload_n hx hb d_La_makes_3 rfl (lv_at hl 1 rfl) ?_
  refine lv_iload_n hx hb d_La_makes_4 rfl (lv_at hl 2 rfl) ?_
  obtain ⟨u_1, h_u_1, hf⟩ := bd hf
  refine cxV (wr := [(a_p3, .inl (cJ, 1, .inr (.inl arr3)))]) (As := [.int p1, .int p2]) (rest := [.int 0, .ref a_p3]) ⟨hx, hb, hml, hown, ht0⟩ (c_FM_makes l hfl s0 hF dC dI cI cJ a_p0 a_sum a_sum_keys a_sum_numbers a_wiring z_picture z_sum_spareKeys z_sum_spareNumbers z_wiring_told z_wiring_rows z_wiring_back z_wiring_spareBack z_wiring_left s.heap.size sum_count sum_keys sum_numbers wiring_size wiring_kind p1 p2 F u_1 h_u_1) (cwV 2 ht0 (gV m_400 m_401 m_402 m_1 m_403) rfl rfl rfl (by decide +kernel) ⟨Nat.le_of_ble_eq_true rfl, Nat.le_of_ble_eq_true rfl⟩) hK hNW hTZ (fun _ _ => rfl) hP hD hS hA [0, 1, 2, 3, 4] [5] rfl rfl rfl (by decide) (by decide) (by decide) (ci := 3) (q0 := 0) rfl rfl rfl hl.1 rfl (Nat.le_of_ble_eq_true rfl) d_La_makes_5 ⟨Nat.le_of_ble_eq_true rfl, Nat.le_of_ble_eq_true rfl⟩ hone (by simp [covers, hx1, hx2]) hx4 (by decide) hx3 (ht0 _ m_324) (fun w_ hv_3 w1 H locs hw hP hD hS => ?_) (fun e_a hv_3 w1 H locs hw hP hD hS => ?_)
  · obtain ⟨v_2, e_v_2, rfl⟩ := mapS hv_3
    replace hf := opt_s e_v_2 hf
    obtain rfl := hw
    have hP : va_P (dC, dI) cls [(a_p0, .inr (3, [.ref a_sum, .ref a_wiring, .ref z_picture])), (a_sum, .inr (1, [.ref a_sum_keys, .ref a_sum_numbers, .ref z_sum_spareKeys, .ref z_sum_spareNumbers, .int sum_count])), (a_sum_keys, .inl (cI, 60, .inl sum_keys)), (a_sum_numbers, .inl (cI, 60, .inl sum_numbers)), (a_wiring, .inr (2, [.ref z_wiring_told, .ref z_wiring_rows, .ref z_wiring_back, .ref z_wiring_spareBack, .ref z_wiring_left, .int wiring_size, .int wiring_kind])), (a_p3, .inl (cJ, 1, .inr (.inl arr3)))] H := hP.sub [1, 2, 3, 4, 5, 0] rfl
    have hD : va_D A [(a_p0, .inr (3, [.ref a_sum, .ref a_wiring, .ref z_picture])), (a_sum, .inr (1, [.ref a_sum_keys, .ref a_sum_numbers, .ref z_sum_spareKeys, .ref z_sum_spareNumbers, .int sum_count])), (a_sum_keys, .inl (cI, 60, .inl sum_keys)), (a_sum_numbers, .inl (cI, 60, .inl sum_numbers)), (a_wiring, .inr (2, [.ref z_wiring_told, .ref z_wiring_rows, .ref z_wiring_back, .ref z_wiring_spareBack, .ref z_wiring_left, .int wiring_size, .int wiring_kind])), (a_p3, .inl (cJ, 1, .inr (.inl arr3)))] := hD.sub [1, 2, 3, 4, 5, 0] (by decide) rfl
    obtain ⟨hi_4, hf⟩ := ckI_ok hf
    refine va_last hx hb hK hP hD hS 5 1 rfl rfl hi_4 d_La_makes_8 (fun H locs hP hD hS => ?_)
    have hP : va_P (dC, dI) cls [(a_p0, .inr (3, [.ref a_sum, .ref a_wiring, .ref z_picture])), (a_sum, .inr (1, [.ref a_sum_keys, .ref a_sum_numbers, .ref z_sum_spareKeys, .ref z_sum_spareNumbers, .int sum_count])), (a_sum_keys, .inl (cI, 60, .inl sum_keys)), (a_sum_numbers, .inl (cI, 60, .inl sum_numbers)), (a_wiring, .inr (2, [.ref z_wiring_told, .ref z_wiring_rows, .ref z_wiring_back, .ref z_wiring_spareBack, .ref z_wiring_left, .int wiring_size, .int wiring_kind])), (a_p3, .inl (cJ, 1, .inr (.inl (vp_updL arr3 (0 : Int32).toNatClampNeg v_2))))] H := hP
    have hD : va_D A [(a_p0, .inr (3, [.ref a_sum, .ref a_wiring, .ref z_picture])), (a_sum, .inr (1, [.ref a_sum_keys, .ref a_sum_numbers, .ref z_sum_spareKeys, .ref z_sum_spareNumbers, .int sum_count])), (a_sum_keys, .inl (cI, 60, .inl sum_keys)), (a_sum_numbers, .inl (cI, 60, .inl sum_numbers)), (a_wiring, .inr (2, [.ref z_wiring_told, .ref z_wiring_rows, .ref z_wiring_back, .ref z_wiring_spareBack, .ref z_wiring_left, .int wiring_size, .int wiring_kind])), (a_p3, .inl (cJ, 1, .inr (.inl (vp_updL arr3 (0 : Int32).toNatClampNeg v_2))))] := hD
    refine lv_goto (tgt := 16) hx hb d_La_makes_9 (by decide) ?_
    refine lv_iconst (v := 0) hx hb d_La_makes_16 (by decide) ?_
    have hu := Option.some.inj hf
    subst hu
    exact rw_i hQ rfl rfl hP hD hK hS hx hb hr hlocks d_La_makes_17
  · replace hf := opt_n (mapN hv_3) hf
    obtain rfl := hw
    have hP : va_P (dC, dI) cls [(a_p0, .inr (3, [.ref a_sum, .ref a_wiring, .ref z_picture])), (a_sum, .inr (1, [.ref a_sum_keys, .ref a_sum_numbers, .ref z_sum_spareKeys, .ref z_sum_spareNumbers, .int sum_count])), (a_sum_keys, .inl (cI, 60, .inl sum_keys)), (a_sum_numbers, .inl (cI, 60, .inl sum_numbers)), (a_wiring, .inr (2, [.ref z_wiring_told, .ref z_wiring_rows, .ref z_wiring_back, .ref z_wiring_spareBack, .ref z_wiring_left, .int wiring_size, .int wiring_kind])), (a_p3, .inl (cJ, 1, .inr (.inl arr3)))] H := hP.sub [1, 2, 3, 4, 5, 0] rfl
    have hD : va_D A [(a_p0, .inr (3, [.ref a_sum, .ref a_wiring, .ref z_picture])), (a_sum, .inr (1, [.ref a_sum_keys, .ref a_sum_numbers, .ref z_sum_spareKeys, .ref z_sum_spareNumbers, .int sum_count])), (a_sum_keys, .inl (cI, 60, .inl sum_keys)), (a_sum_numbers, .inl (cI, 60, .inl sum_numbers)), (a_wiring, .inr (2, [.ref z_wiring_told, .ref z_wiring_rows, .ref z_wiring_back, .ref z_wiring_spareBack, .ref z_wiring_left, .int wiring_size, .int wiring_kind])), (a_p3, .inl (cJ, 1, .inr (.inl arr3)))] := hD.sub [1, 2, 3, 4, 5, 0] (by decide) rfl
    refine lv_astore (lv' := [(4, .ref e_a), (0, .ref a_p0), (1, .int p1), (2, .int p2), (3, .ref a_p3)]) hx hb d_La_makes_12 hl (by decide) rfl (fun ls hl => ?_)
    refine lv_iconst (v := 1) hx hb d_La_makes_14 (by decide) ?_
    have hu := Option.some.inj hf
    subst hu
    exact rw_i hQ rfl rfl hP hD hK hS hx hb hr hlocks d_La_makes_15

/-! FermionMapsLaw.image(LFermionMaps;II[J)I -/
def f_La_image (F : Nat) (sum_count : Int32) (sum_keys : Nat → Int32) (sum_numbers : Nat → Int32) (wiring_size : Int32) (wiring_rows : Nat → Int32) (wiring_back : Nat → Int32) (picture_drawn : Int32) (picture_held : Int32) (picture_terms : Int32) (picture_widest : Int32) (picture_halvings : Int32) (picture_foundSigns : Int32) (picture_flipsOf : Nat → Int32) (picture_termsAt : Nat → Int32) (picture_numbers : Nat → Int64) (picture_spread : Nat → Int32) (arr3 : Nat → Int64) (p1 : Int32) (p2 : Int32) : Option (Int32 × Int32 × Int32 × Int32 × Int32 × Int32 × Int32 × (Nat → Int32) × (Nat → Int32) × (Nat → Int64) × (Nat → Int32) × (Nat → Int64)) :=
  (f_FM_image F sum_count sum_keys sum_numbers wiring_size wiring_rows wiring_back picture_drawn picture_held picture_terms picture_widest picture_halvings picture_foundSigns picture_flipsOf picture_termsAt picture_numbers picture_spread p1 p2).bind fun u_1 =>
  opt u_1.1 (
    some (1, u_1.2.1, u_1.2.2.1, u_1.2.2.2.1, u_1.2.2.2.2.1, u_1.2.2.2.2.2.1, u_1.2.2.2.2.2.2.1, u_1.2.2.2.2.2.2.2.1, u_1.2.2.2.2.2.2.2.2.1, u_1.2.2.2.2.2.2.2.2.2.1, u_1.2.2.2.2.2.2.2.2.2.2, arr3)
    ) fun v_2 =>
  ckI 0 1 <|
  some (0, u_1.2.1, u_1.2.2.1, u_1.2.2.2.1, u_1.2.2.2.2.1, u_1.2.2.2.2.2.1, u_1.2.2.2.2.2.2.1, u_1.2.2.2.2.2.2.2.1, u_1.2.2.2.2.2.2.2.2.1, u_1.2.2.2.2.2.2.2.2.2.1, u_1.2.2.2.2.2.2.2.2.2.2, (vp_updL arr3 (0 : Int32).toNatClampNeg v_2))
abbrev rm_La_image : Room := { frames := 7, cells := 1, slots := 6, locals := 165 }
set_option maxHeartbeats 4000000 in
set_option maxRecDepth 100000 in
theorem c_La_image (l : Launch) (hfl : l.flags = flags0) (s0 : State) (hF : ThF s0) (dC : Nat → ClassId) (dI : Nat → Nat → Nat) (cI cJ : ClassId) (a_p0 a_sum a_sum_keys a_sum_numbers a_wiring a_wiring_rows a_wiring_back a_picture a_picture_flipsOf a_picture_termsAt a_picture_numbers a_picture_spread a_p3 z_sum_spareKeys z_sum_spareNumbers z_wiring_told z_wiring_spareBack z_wiring_left : Nat) (sz : Nat) (sum_count : Int32) (sum_keys : Nat → Int32) (sum_numbers : Nat → Int32) (wiring_size : Int32) (wiring_kind : Int32) (wiring_rows : Nat → Int32) (wiring_back : Nat → Int32) (picture_drawn : Int32) (picture_held : Int32) (picture_terms : Int32) (picture_widest : Int32) (picture_halvings : Int32) (picture_foundSigns : Int32) (picture_flipsOf : Nat → Int32) (picture_termsAt : Nat → Int32) (picture_numbers : Nat → Int64) (picture_spread : Nat → Int32) (arr3 : Nat → Int64) (p1 : Int32) (p2 : Int32) (F : Nat) (u : Int32 × Int32 × Int32 × Int32 × Int32 × Int32 × Int32 × (Nat → Int32) × (Nat → Int32) × (Nat → Int64) × (Nat → Int32) × (Nat → Int64)) (hf : f_La_image F sum_count sum_keys sum_numbers wiring_size wiring_rows wiring_back picture_drawn picture_held picture_terms picture_widest picture_halvings picture_foundSigns picture_flipsOf picture_termsAt picture_numbers picture_spread arr3 p1 p2 = some u) : Met l y_La_image (Cond.codeWith y_La_image method_5_code 5 (some .int) [(0, 9, 12, 13)] :: T0) rm_La_image (va_Pc [.ref a_p0, .int p1, .int p2, .ref a_p3] (Wx s0 (dC, dI) [(a_p0, .inr (3, [.ref a_sum, .ref a_wiring, .ref a_picture])), (a_sum, .inr (1, [.ref a_sum_keys, .ref a_sum_numbers, .ref z_sum_spareKeys, .ref z_sum_spareNumbers, .int sum_count])), (a_sum_keys, .inl (cI, 60, .inl sum_keys)), (a_sum_numbers, .inl (cI, 60, .inl sum_numbers)), (a_wiring, .inr (2, [.ref z_wiring_told, .ref a_wiring_rows, .ref a_wiring_back, .ref z_wiring_spareBack, .ref z_wiring_left, .int wiring_size, .int wiring_kind])), (a_wiring_rows, .inl (cI, 8, .inl wiring_rows)), (a_wiring_back, .inl (cI, 8, .inl wiring_back)), (a_picture, .inr (0, [.ref a_picture_flipsOf, .ref a_picture_termsAt, .ref a_picture_numbers, .ref a_picture_spread, .int picture_drawn, .int picture_held, .int picture_terms, .int picture_widest, .int picture_halvings, .int picture_foundSigns])), (a_picture_flipsOf, .inl (cI, 60, .inl picture_flipsOf)), (a_picture_termsAt, .inl (cI, 256, .inl picture_termsAt)), (a_picture_numbers, .inl (cJ, 256, .inr (.inl picture_numbers))), (a_picture_spread, .inl (cI, 256, .inl picture_spread)), (a_p3, .inl (cJ, 1, .inr (.inl arr3)))] [(cI, .int), (cJ, .long)] sz)) (va_Qi (fun r (_ : Unit) => r = u.1) (Bw (dC, dI) [(cI, .int), (cJ, .long)] (va_A [(a_p0, .inr (3, [.ref a_sum, .ref a_wiring, .ref a_picture])), (a_sum, .inr (1, [.ref a_sum_keys, .ref a_sum_numbers, .ref z_sum_spareKeys, .ref z_sum_spareNumbers, .int sum_count])), (a_sum_keys, .inl (cI, 60, .inl sum_keys)), (a_sum_numbers, .inl (cI, 60, .inl sum_numbers)), (a_wiring, .inr (2, [.ref z_wiring_told, .ref a_wiring_rows, .ref a_wiring_back, .ref z_wiring_spareBack, .ref z_wiring_left, .int wiring_size, .int wiring_kind])), (a_wiring_rows, .inl (cI, 8, .inl wiring_rows)), (a_wiring_back, .inl (cI, 8, .inl wiring_back)), (a_picture, .inr (0, [.ref a_picture_flipsOf, .ref a_picture_termsAt, .ref a_picture_numbers, .ref a_picture_spread, .int picture_drawn, .int picture_held, .int picture_terms, .int picture_widest, .int picture_halvings, .int picture_foundSigns])), (a_picture_flipsOf, .inl (cI, 60, .inl picture_flipsOf)), (a_picture_termsAt, .inl (cI, 256, .inl picture_termsAt)), (a_picture_numbers, .inl (cJ, 256, .inr (.inl picture_numbers))), (a_picture_spread, .inl (cI, 256, .inl picture_spread)), (a_p3, .inl (cJ, 1, .inr (.inl arr3)))] sz) (fun w1 => w1 = [(a_p0, .inr (3, [.ref a_sum, .ref a_wiring, .ref a_picture])), (a_sum, .inr (1, [.ref a_sum_keys, .ref a_sum_numbers, .ref z_sum_spareKeys, .ref z_sum_spareNumbers, .int sum_count])), (a_sum_keys, .inl (cI, 60, .inl sum_keys)), (a_sum_numbers, .inl (cI, 60, .inl sum_numbers)), (a_wiring, .inr (2, [.ref z_wiring_told, .ref a_wiring_rows, .ref a_wiring_back, .ref z_wiring_spareBack, .ref z_wiring_left, .int wiring_size, .int wiring_kind])), (a_wiring_rows, .inl (cI, 8, .inl wiring_rows)), (a_wiring_back, .inl (cI, 8, .inl wiring_back)), (a_picture, .inr (0, [.ref a_picture_flipsOf, .ref a_picture_termsAt, .ref a_picture_numbers, .ref a_picture_spread, .int u.2.1, .int u.2.2.1, .int u.2.2.2.1, .int u.2.2.2.2.1, .int u.2.2.2.2.2.1, .int u.2.2.2.2.2.2.1])), (a_picture_flipsOf, .inl (cI, 60, .inl u.2.2.2.2.2.2.2.1)), (a_picture_termsAt, .inl (cI, 256, .inl u.2.2.2.2.2.2.2.2.1)), (a_picture_numbers, .inl (cJ, 256, .inr (.inl u.2.2.2.2.2.2.2.2.2.1))), (a_picture_spread, .inl (cI, 256, .inl u.2.2.2.2.2.2.2.2.2.2.1)), (a_p3, .inl (cJ, 1, .inr (.inl u.2.2.2.2.2.2.2.2.2.2.2)))])) (va_A [(a_p0, .inr (3, [.ref a_sum, .ref a_wiring, .ref a_picture])), (a_sum, .inr (1, [.ref a_sum_keys, .ref a_sum_numbers, .ref z_sum_spareKeys, .ref z_sum_spareNumbers, .int sum_count])), (a_sum_keys, .inl (cI, 60, .inl sum_keys)), (a_sum_numbers, .inl (cI, 60, .inl sum_numbers)), (a_wiring, .inr (2, [.ref z_wiring_told, .ref a_wiring_rows, .ref a_wiring_back, .ref z_wiring_spareBack, .ref z_wiring_left, .int wiring_size, .int wiring_kind])), (a_wiring_rows, .inl (cI, 8, .inl wiring_rows)), (a_wiring_back, .inl (cI, 8, .inl wiring_back)), (a_picture, .inr (0, [.ref a_picture_flipsOf, .ref a_picture_termsAt, .ref a_picture_numbers, .ref a_picture_spread, .int picture_drawn, .int picture_held, .int picture_terms, .int picture_widest, .int picture_halvings, .int picture_foundSigns])), (a_picture_flipsOf, .inl (cI, 60, .inl picture_flipsOf)), (a_picture_termsAt, .inl (cI, 256, .inl picture_termsAt)), (a_picture_numbers, .inl (cJ, 256, .inr (.inl picture_numbers))), (a_picture_spread, .inl (cI, 256, .inl picture_spread)), (a_p3, .inl (cJ, 1, .inr (.inl arr3)))] sz)) 1 6 (va_A [(a_p0, .inr (3, [.ref a_sum, .ref a_wiring, .ref a_picture])), (a_sum, .inr (1, [.ref a_sum_keys, .ref a_sum_numbers, .ref z_sum_spareKeys, .ref z_sum_spareNumbers, .int sum_count])), (a_sum_keys, .inl (cI, 60, .inl sum_keys)), (a_sum_numbers, .inl (cI, 60, .inl sum_numbers)), (a_wiring, .inr (2, [.ref z_wiring_told, .ref a_wiring_rows, .ref a_wiring_back, .ref z_wiring_spareBack, .ref z_wiring_left, .int wiring_size, .int wiring_kind])), (a_wiring_rows, .inl (cI, 8, .inl wiring_rows)), (a_wiring_back, .inl (cI, 8, .inl wiring_back)), (a_picture, .inr (0, [.ref a_picture_flipsOf, .ref a_picture_termsAt, .ref a_picture_numbers, .ref a_picture_spread, .int picture_drawn, .int picture_held, .int picture_terms, .int picture_widest, .int picture_halvings, .int picture_foundSigns])), (a_picture_flipsOf, .inl (cI, 60, .inl picture_flipsOf)), (a_picture_termsAt, .inl (cI, 256, .inl picture_termsAt)), (a_picture_numbers, .inl (cJ, 256, .inr (.inl picture_numbers))), (a_picture_spread, .inl (cI, 256, .inl picture_spread)), (a_p3, .inl (cJ, 1, .inr (.inl arr3)))] sz) := by
  refine va_MetW (cc := method_5_code) (maxL := 5) (ret := (some .int)) (hh := [(0, 9, 12, 13)]) (by decide) rfl ?_
  intro p e s m args below meth c s₁ B hml hv
  obtain ⟨rfl, ⟨hsz, hP, hK, hD0, hNW⟩, hTZ⟩ := hv
  obtain ⟨x9, hone, hx1, hx2, hx3, hx4⟩ := one_handler B (List.mem_cons_self)
  have hx := B.exec
  have hb := B.bytes
  have hr := B.returns
  have hts := atoms_spec (ws := Cond.codeWith y_La_image method_5_code 5 (some .int) [(0, 9, 12, 13)] :: T0) B.pre
  have ht0 : ∀ w ∈ T0, w.before ([.ref a_p0, .int p1, .int p2, .ref a_p3] : List Value).toArray s = true := fun w h => hts w (List.mem_cons_of_mem _ h)
  have hown : s.vm.findClass "FermionMapsLaw" = some m.cls := findClass_of_methodNamed B.named
  have hlocks := B.notSynchronized
  subst hsz
  have hD := hD0.self (sz := s.heap.size)
  generalize hAe : va_A [(a_p0, .inr (3, [.ref a_sum, .ref a_wiring, .ref a_picture])), (a_sum, .inr (1, [.ref a_sum_keys, .ref a_sum_numbers, .ref z_sum_spareKeys, .ref z_sum_spareNumbers, .int sum_count])), (a_sum_keys, .inl (cI, 60, .inl sum_keys)), (a_sum_numbers, .inl (cI, 60, .inl sum_numbers)), (a_wiring, .inr (2, [.ref z_wiring_told, .ref a_wiring_rows, .ref a_wiring_back, .ref z_wiring_spareBack, .ref z_wiring_left, .int wiring_size, .int wiring_kind])), (a_wiring_rows, .inl (cI, 8, .inl wiring_rows)), (a_wiring_back, .inl (cI, 8, .inl wiring_back)), (a_picture, .inr (0, [.ref a_picture_flipsOf, .ref a_picture_termsAt, .ref a_picture_numbers, .ref a_picture_spread, .int picture_drawn, .int picture_held, .int picture_terms, .int picture_widest, .int picture_halvings, .int picture_foundSigns])), (a_picture_flipsOf, .inl (cI, 60, .inl picture_flipsOf)), (a_picture_termsAt, .inl (cI, 256, .inl picture_termsAt)), (a_picture_numbers, .inl (cJ, 256, .inr (.inl picture_numbers))), (a_picture_spread, .inl (cI, 256, .inl picture_spread)), (a_p3, .inl (cJ, 1, .inr (.inl arr3)))] s.heap.size = A at hD ⊢
  have hA : ∀ q : Nat, s.heap.size ≤ q → A q := fun q h => by rw [← hAe]; exact Or.inr h
  have hS : va_S A s.heap s.heap [] := va_S.rf
  have hl := lv_entry ([.ref a_p0, .int p1, .int p2, .ref a_p3]) (n := 5) (Nat.le_of_ble_eq_true rfl)
  rw [lg_entry_eq]
  generalize (lg_sl ([.ref a_p0, .int p1, .int p2, .ref a_p3]) ++ List.replicate (5 - (lg_sl ([.ref a_p0, .int p1, .int p2, .ref a_p3])).length) Slot.unset).toArray = ls at hl ⊢
  have hl : lv_has ls 5 [(0, .ref a_p0), (1, .int p1), (2, .int p2), (3, .ref a_p3)] := hl
  refine W.nameQ (fun Q hQ => ?_)
  rw [f_La_image] at hf
  refine lv_aload_n hx hb d_La_image_0 rfl (lv_at hl 3 rfl) ?_
  refine lv_iconst (v := 0) hx hb d_La_image_1 (by decide) ?_
  refine lv_aload_n hx hb d_La_image_2 rfl (lv_at hl 0 rfl) ?_
  refine lv_iload_n hx hb d_La_image_3 rfl (lv_at hl 1 rfl) ?_
  refine lv_iload_n hx hb d_La_image_4 rfl (lv_at hl 2 rfl) ?_
  obtain ⟨u_1, h_u_1, hf⟩ := bd hf
  refine cxV (wr := [(a_p3, .inl (cJ, 1, .inr (.inl arr3)))]) (As := [.int p1, .int p2]) (rest := [.int 0, .ref a_p3]) ⟨hx, hb, hml, hown, ht0⟩ (c_FM_image l hfl s0 hF dC dI cI cJ a_p0 a_sum a_sum_keys a_sum_numbers a_wiring a_wiring_rows a_wiring_back a_picture a_picture_flipsOf a_picture_termsAt a_picture_numbers a_picture_spread z_sum_spareKeys z_sum_spareNumbers z_wiring_told z_wiring_spareBack z_wiring_left s.heap.size sum_count sum_keys sum_numbers wiring_size wiring_kind wiring_rows wiring_back picture_drawn picture_held picture_terms picture_widest picture_halvings picture_foundSigns picture_flipsOf picture_termsAt picture_numbers picture_spread p1 p2 F u_1 h_u_1) (cwV 2 ht0 (gV m_414 m_415 m_416 m_1 m_417) rfl rfl rfl (by decide +kernel) ⟨Nat.le_of_ble_eq_true rfl, Nat.le_of_ble_eq_true rfl⟩) hK hNW hTZ (fun _ _ => rfl) hP hD hS hA [0, 1, 2, 3, 4, 5, 6, 7, 8, 9, 10, 11] [12] rfl rfl rfl (by decide) (by decide) (by decide) (ci := 3) (q0 := 0) rfl rfl rfl hl.1 rfl (Nat.le_of_ble_eq_true rfl) d_La_image_5 ⟨Nat.le_of_ble_eq_true rfl, Nat.le_of_ble_eq_true rfl⟩ hone (by simp [covers, hx1, hx2]) hx4 (by decide) hx3 (ht0 _ m_324) (fun w_ hv_3 w1 H locs hw hP hD hS => ?_) (fun e_a hv_3 w1 H locs hw hP hD hS => ?_)
  · obtain ⟨v_2, e_v_2, rfl⟩ := mapS hv_3
    replace hf := opt_s e_v_2 hf
    obtain rfl := hw
    have hP : va_P (dC, dI) cls [(a_p0, .inr (3, [.ref a_sum, .ref a_wiring, .ref a_picture])), (a_sum, .inr (1, [.ref a_sum_keys, .ref a_sum_numbers, .ref z_sum_spareKeys, .ref z_sum_spareNumbers, .int sum_count])), (a_sum_keys, .inl (cI, 60, .inl sum_keys)), (a_sum_numbers, .inl (cI, 60, .inl sum_numbers)), (a_wiring, .inr (2, [.ref z_wiring_told, .ref a_wiring_rows, .ref a_wiring_back, .ref z_wiring_spareBack, .ref z_wiring_left, .int wiring_size, .int wiring_kind])), (a_wiring_rows, .inl (cI, 8, .inl wiring_rows)), (a_wiring_back, .inl (cI, 8, .inl wiring_back)), (a_picture, .inr (0, [.ref a_picture_flipsOf, .ref a_picture_termsAt, .ref a_picture_numbers, .ref a_picture_spread, .int u_1.2.1, .int u_1.2.2.1, .int u_1.2.2.2.1, .int u_1.2.2.2.2.1, .int u_1.2.2.2.2.2.1, .int u_1.2.2.2.2.2.2.1])), (a_picture_flipsOf, .inl (cI, 60, .inl u_1.2.2.2.2.2.2.2.1)), (a_picture_termsAt, .inl (cI, 256, .inl u_1.2.2.2.2.2.2.2.2.1)), (a_picture_numbers, .inl (cJ, 256, .inr (.inl u_1.2.2.2.2.2.2.2.2.2.1))), (a_picture_spread, .inl (cI, 256, .inl u_1.2.2.2.2.2.2.2.2.2.2)), (a_p3, .inl (cJ, 1, .inr (.inl arr3)))] H := hP.sub [1, 2, 3, 4, 5, 6, 7, 8, 9, 10, 11, 12, 0] rfl
    have hD : va_D A [(a_p0, .inr (3, [.ref a_sum, .ref a_wiring, .ref a_picture])), (a_sum, .inr (1, [.ref a_sum_keys, .ref a_sum_numbers, .ref z_sum_spareKeys, .ref z_sum_spareNumbers, .int sum_count])), (a_sum_keys, .inl (cI, 60, .inl sum_keys)), (a_sum_numbers, .inl (cI, 60, .inl sum_numbers)), (a_wiring, .inr (2, [.ref z_wiring_told, .ref a_wiring_rows, .ref a_wiring_back, .ref z_wiring_spareBack, .ref z_wiring_left, .int wiring_size, .int wiring_kind])), (a_wiring_rows, .inl (cI, 8, .inl wiring_rows)), (a_wiring_back, .inl (cI, 8, .inl wiring_back)), (a_picture, .inr (0, [.ref a_picture_flipsOf, .ref a_picture_termsAt, .ref a_picture_numbers, .ref a_picture_spread, .int u_1.2.1, .int u_1.2.2.1, .int u_1.2.2.2.1, .int u_1.2.2.2.2.1, .int u_1.2.2.2.2.2.1, .int u_1.2.2.2.2.2.2.1])), (a_picture_flipsOf, .inl (cI, 60, .inl u_1.2.2.2.2.2.2.2.1)), (a_picture_termsAt, .inl (cI, 256, .inl u_1.2.2.2.2.2.2.2.2.1)), (a_picture_numbers, .inl (cJ, 256, .inr (.inl u_1.2.2.2.2.2.2.2.2.2.1))), (a_picture_spread, .inl (cI, 256, .inl u_1.2.2.2.2.2.2.2.2.2.2)), (a_p3, .inl (cJ, 1, .inr (.inl arr3)))] := hD.sub [1, 2, 3, 4, 5, 6, 7, 8, 9, 10, 11, 12, 0] (by decide) rfl
    obtain ⟨hi_4, hf⟩ := ckI_ok hf
    refine va_last hx hb hK hP hD hS 12 1 rfl rfl hi_4 d_La_image_8 (fun H locs hP hD hS => ?_)
    have hP : va_P (dC, dI) cls [(a_p0, .inr (3, [.ref a_sum, .ref a_wiring, .ref a_picture])), (a_sum, .inr (1, [.ref a_sum_keys, .ref a_sum_numbers, .ref z_sum_spareKeys, .ref z_sum_spareNumbers, .int sum_count])), (a_sum_keys, .inl (cI, 60, .inl sum_keys)), (a_sum_numbers, .inl (cI, 60, .inl sum_numbers)), (a_wiring, .inr (2, [.ref z_wiring_told, .ref a_wiring_rows, .ref a_wiring_back, .ref z_wiring_spareBack, .ref z_wiring_left, .int wiring_size, .int wiring_kind])), (a_wiring_rows, .inl (cI, 8, .inl wiring_rows)), (a_wiring_back, .inl (cI, 8, .inl wiring_back)), (a_picture, .inr (0, [.ref a_picture_flipsOf, .ref a_picture_termsAt, .ref a_picture_numbers, .ref a_picture_spread, .int u_1.2.1, .int u_1.2.2.1, .int u_1.2.2.2.1, .int u_1.2.2.2.2.1, .int u_1.2.2.2.2.2.1, .int u_1.2.2.2.2.2.2.1])), (a_picture_flipsOf, .inl (cI, 60, .inl u_1.2.2.2.2.2.2.2.1)), (a_picture_termsAt, .inl (cI, 256, .inl u_1.2.2.2.2.2.2.2.2.1)), (a_picture_numbers, .inl (cJ, 256, .inr (.inl u_1.2.2.2.2.2.2.2.2.2.1))), (a_picture_spread, .inl (cI, 256, .inl u_1.2.2.2.2.2.2.2.2.2.2)), (a_p3, .inl (cJ, 1, .inr (.inl (vp_updL arr3 (0 : Int32).toNatClampNeg v_2))))] H := hP
    have hD : va_D A [(a_p0, .inr (3, [.ref a_sum, .ref a_wiring, .ref a_picture])), (a_sum, .inr (1, [.ref a_sum_keys, .ref a_sum_numbers, .ref z_sum_spareKeys, .ref z_sum_spareNumbers, .int sum_count])), (a_sum_keys, .inl (cI, 60, .inl sum_keys)), (a_sum_numbers, .inl (cI, 60, .inl sum_numbers)), (a_wiring, .inr (2, [.ref z_wiring_told, .ref a_wiring_rows, .ref a_wiring_back, .ref z_wiring_spareBack, .ref z_wiring_left, .int wiring_size, .int wiring_kind])), (a_wiring_rows, .inl (cI, 8, .inl wiring_rows)), (a_wiring_back, .inl (cI, 8, .inl wiring_back)), (a_picture, .inr (0, [.ref a_picture_flipsOf, .ref a_picture_termsAt, .ref a_picture_numbers, .ref a_picture_spread, .int u_1.2.1, .int u_1.2.2.1, .int u_1.2.2.2.1, .int u_1.2.2.2.2.1, .int u_1.2.2.2.2.2.1, .int u_1.2.2.2.2.2.2.1])), (a_picture_flipsOf, .inl (cI, 60, .inl u_1.2.2.2.2.2.2.2.1)), (a_picture_termsAt, .inl (cI, 256, .inl u_1.2.2.2.2.2.2.2.2.1)), (a_picture_numbers, .inl (cJ, 256, .inr (.inl u_1.2.2.2.2.2.2.2.2.2.1))), (a_picture_spread, .inl (cI, 256, .inl u_1.2.2.2.2.2.2.2.2.2.2)), (a_p3, .inl (cJ, 1, .inr (.inl (vp_updL arr3 (0 : Int32).toNatClampNeg v_2))))] := hD
    refine lv_goto (tgt := 16) hx hb d_La_image_9 (by decide) ?_
    refine lv_iconst (v := 0) hx hb d_La_image_16 (by decide) ?_
    have hu := Option.some.inj hf
    subst hu
    exact rw_i hQ rfl rfl hP hD hK hS hx hb hr hlocks d_La_image_17
  · replace hf := opt_n (mapN hv_3) hf
    obtain rfl := hw
    have hP : va_P (dC, dI) cls [(a_p0, .inr (3, [.ref a_sum, .ref a_wiring, .ref a_picture])), (a_sum, .inr (1, [.ref a_sum_keys, .ref a_sum_numbers, .ref z_sum_spareKeys, .ref z_sum_spareNumbers, .int sum_count])), (a_sum_keys, .inl (cI, 60, .inl sum_keys)), (a_sum_numbers, .inl (cI, 60, .inl sum_numbers)), (a_wiring, .inr (2, [.ref z_wiring_told, .ref a_wiring_rows, .ref a_wiring_back, .ref z_wiring_spareBack, .ref z_wiring_left, .int wiring_size, .int wiring_kind])), (a_wiring_rows, .inl (cI, 8, .inl wiring_rows)), (a_wiring_back, .inl (cI, 8, .inl wiring_back)), (a_picture, .inr (0, [.ref a_picture_flipsOf, .ref a_picture_termsAt, .ref a_picture_numbers, .ref a_picture_spread, .int u_1.2.1, .int u_1.2.2.1, .int u_1.2.2.2.1, .int u_1.2.2.2.2.1, .int u_1.2.2.2.2.2.1, .int u_1.2.2.2.2.2.2.1])), (a_picture_flipsOf, .inl (cI, 60, .inl u_1.2.2.2.2.2.2.2.1)), (a_picture_termsAt, .inl (cI, 256, .inl u_1.2.2.2.2.2.2.2.2.1)), (a_picture_numbers, .inl (cJ, 256, .inr (.inl u_1.2.2.2.2.2.2.2.2.2.1))), (a_picture_spread, .inl (cI, 256, .inl u_1.2.2.2.2.2.2.2.2.2.2)), (a_p3, .inl (cJ, 1, .inr (.inl arr3)))] H := hP.sub [1, 2, 3, 4, 5, 6, 7, 8, 9, 10, 11, 12, 0] rfl
    have hD : va_D A [(a_p0, .inr (3, [.ref a_sum, .ref a_wiring, .ref a_picture])), (a_sum, .inr (1, [.ref a_sum_keys, .ref a_sum_numbers, .ref z_sum_spareKeys, .ref z_sum_spareNumbers, .int sum_count])), (a_sum_keys, .inl (cI, 60, .inl sum_keys)), (a_sum_numbers, .inl (cI, 60, .inl sum_numbers)), (a_wiring, .inr (2, [.ref z_wiring_told, .ref a_wiring_rows, .ref a_wiring_back, .ref z_wiring_spareBack, .ref z_wiring_left, .int wiring_size, .int wiring_kind])), (a_wiring_rows, .inl (cI, 8, .inl wiring_rows)), (a_wiring_back, .inl (cI, 8, .inl wiring_back)), (a_picture, .inr (0, [.ref a_picture_flipsOf, .ref a_picture_termsAt, .ref a_picture_numbers, .ref a_picture_spread, .int u_1.2.1, .int u_1.2.2.1, .int u_1.2.2.2.1, .int u_1.2.2.2.2.1, .int u_1.2.2.2.2.2.1, .int u_1.2.2.2.2.2.2.1])), (a_picture_flipsOf, .inl (cI, 60, .inl u_1.2.2.2.2.2.2.2.1)), (a_picture_termsAt, .inl (cI, 256, .inl u_1.2.2.2.2.2.2.2.2.1)), (a_picture_numbers, .inl (cJ, 256, .inr (.inl u_1.2.2.2.2.2.2.2.2.2.1))), (a_picture_spread, .inl (cI, 256, .inl u_1.2.2.2.2.2.2.2.2.2.2)), (a_p3, .inl (cJ, 1, .inr (.inl arr3)))] := hD.sub [1, 2, 3, 4, 5, 6, 7, 8, 9, 10, 11, 12, 0] (by decide) rfl
    refine lv_astore (lv' := [(4, .ref e_a), (0, .ref a_p0), (1, .int p1), (2, .int p2), (3, .ref a_p3)]) hx hb d_La_image_12 hl (by decide) rfl (fun ls hl => ?_)
    refine lv_iconst (v := 1) hx hb d_La_image_14 (by decide) ?_
    have hu := Option.some.inj hf
    subst hu
    exact rw_i hQ rfl rfl hP hD hK hS hx hb hr hlocks d_La_image_15
