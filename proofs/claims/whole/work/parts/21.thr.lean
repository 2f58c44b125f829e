theorem d_FM_product_0 : decode prog_1_method_6_code 0 = .ok (.iload_n 1, 1) := by decide +kernel
theorem d_FM_product_1 : decode prog_1_method_6_code 1 = .ok (.ifCond .lt 23, 3) := by decide +kernel
theorem d_FM_product_4 : decode prog_1_method_6_code 4 = .ok (.iload_n 1, 1) := by decide +kernel
theorem d_FM_product_5 : decode prog_1_method_6_code 5 = .ok (.aload_n 0, 1) := by decide +kernel
theorem d_FM_product_6 : decode prog_1_method_6_code 6 = .ok (.getfield 10, 3) := by decide +kernel
theorem d_FM_product_9 : decode prog_1_method_6_code 9 = .ok (.getfield 34, 3) := by decide +kernel
theorem d_FM_product_12 : decode prog_1_method_6_code 12 = .ok (.if_icmp .ge 12, 3) := by decide +kernel
theorem d_FM_product_15 : decode prog_1_method_6_code 15 = .ok (.iload_n 2, 1) := by decide +kernel
theorem d_FM_product_16 : decode prog_1_method_6_code 16 = .ok (.ifCond .lt 8, 3) := by decide +kernel
theorem d_FM_product_19 : decode prog_1_method_6_code 19 = .ok (.iload_n 2, 1) := by decide +kernel
theorem d_FM_product_20 : decode prog_1_method_6_code 20 = .ok (.iconst 2, 1) := by decide +kernel
theorem d_FM_product_21 : decode prog_1_method_6_code 21 = .ok (.if_icmp .le 13, 3) := by decide +kernel
theorem d_FM_product_24 : decode prog_1_method_6_code 24 = .ok (.new 60, 3) := by decide +kernel
theorem d_FM_product_27 : decode prog_1_method_6_code 27 = .ok (.dup, 1) := by decide +kernel
theorem d_FM_product_28 : decode prog_1_method_6_code 28 = .ok (.ldc 62, 2) := by decide +kernel
theorem d_FM_product_30 : decode prog_1_method_6_code 30 = .ok (.invokespecial 64, 3) := by decide +kernel
theorem d_FM_product_33 : decode prog_1_method_6_code 33 = .ok (.athrow, 1) := by decide +kernel
theorem d_FM_product_34 : decode prog_1_method_6_code 34 = .ok (.iload_n 2, 1) := by decide +kernel
theorem d_FM_product_35 : decode prog_1_method_6_code 35 = .ok (.ifCond .ne 12, 3) := by decide +kernel
theorem d_FM_product_38 : decode prog_1_method_6_code 38 = .ok (.aload_n 0, 1) := by decide +kernel
theorem d_FM_product_39 : decode prog_1_method_6_code 39 = .ok (.getfield 10, 3) := by decide +kernel
theorem d_FM_product_42 : decode prog_1_method_6_code 42 = .ok (.iload_n 1, 1) := by decide +kernel
theorem d_FM_product_43 : decode prog_1_method_6_code 43 = .ok (.invokevirtual 67, 3) := by decide +kernel
theorem d_FM_product_46 : decode prog_1_method_6_code 46 = .ok (.ireturn, 1) := by decide +kernel
theorem d_FM_product_47 : decode prog_1_method_6_code 47 = .ok (.iload_n 2, 1) := by decide +kernel
theorem d_FM_product_48 : decode prog_1_method_6_code 48 = .ok (.iconst 1, 1) := by decide +kernel
theorem d_FM_product_49 : decode prog_1_method_6_code 49 = .ok (.if_icmp .ne 14, 3) := by decide +kernel
theorem d_FM_product_52 : decode prog_1_method_6_code 52 = .ok (.aload_n 0, 1) := by decide +kernel
theorem d_FM_product_53 : decode prog_1_method_6_code 53 = .ok (.getfield 10, 3) := by decide +kernel
theorem d_FM_product_56 : decode prog_1_method_6_code 56 = .ok (.iload_n 1, 1) := by decide +kernel
theorem d_FM_product_57 : decode prog_1_method_6_code 57 = .ok (.invokevirtual 71, 3) := by decide +kernel
theorem d_FM_product_60 : decode prog_1_method_6_code 60 = .ok (.goto 12, 3) := by decide +kernel
theorem d_FM_product_63 : decode prog_1_method_6_code 63 = .ok (.aload_n 0, 1) := by decide +kernel
theorem d_FM_product_64 : decode prog_1_method_6_code 64 = .ok (.getfield 10, 3) := by decide +kernel
theorem d_FM_product_67 : decode prog_1_method_6_code 67 = .ok (.getfield 74, 3) := by decide +kernel
theorem d_FM_product_70 : decode prog_1_method_6_code 70 = .ok (.iload_n 1, 1) := by decide +kernel
theorem d_FM_product_71 : decode prog_1_method_6_code 71 = .ok (.iaload, 1) := by decide +kernel
theorem d_FM_product_72 : decode prog_1_method_6_code 72 = .ok (.ireturn, 1) := by decide +kernel
theorem d_FM_makes_0 : decode prog_1_method_7_code 0 = .ok (.aload_n 0, 1) := by decide +kernel
theorem d_FM_makes_1 : decode prog_1_method_7_code 1 = .ok (.iload_n 1, 1) := by decide +kernel
theorem d_FM_makes_2 : decode prog_1_method_7_code 2 = .ok (.invokevirtual 42, 3) := by decide +kernel
theorem d_FM_makes_5 : decode prog_1_method_7_code 5 = .ok (.ifCond .eq 11, 3) := by decide +kernel
theorem d_FM_makes_8 : decode prog_1_method_7_code 8 = .ok (.aload_n 0, 1) := by decide +kernel
theorem d_FM_makes_9 : decode prog_1_method_7_code 9 = .ok (.iload_n 2, 1) := by decide +kernel
theorem d_FM_makes_10 : decode prog_1_method_7_code 10 = .ok (.invokevirtual 42, 3) := by decide +kernel
theorem d_FM_makes_13 : decode prog_1_method_7_code 13 = .ok (.ifCond .ne 13, 3) := by decide +kernel
theorem d_FM_makes_16 : decode prog_1_method_7_code 16 = .ok (.new 60, 3) := by decide +kernel
theorem d_FM_makes_19 : decode prog_1_method_7_code 19 = .ok (.dup, 1) := by decide +kernel
theorem d_FM_makes_20 : decode prog_1_method_7_code 20 = .ok (.ldc 78, 2) := by decide +kernel
theorem d_FM_makes_22 : decode prog_1_method_7_code 22 = .ok (.invokespecial 64, 3) := by decide +kernel
theorem d_FM_makes_25 : decode prog_1_method_7_code 25 = .ok (.athrow, 1) := by decide +kernel
theorem d_FM_makes_26 : decode prog_1_method_7_code 26 = .ok (.aload_n 0, 1) := by decide +kernel
theorem d_FM_makes_27 : decode prog_1_method_7_code 27 = .ok (.getfield 10, 3) := by decide +kernel
theorem d_FM_makes_30 : decode prog_1_method_7_code 30 = .ok (.iload_n 1, 1) := by decide +kernel
theorem d_FM_makes_31 : decode prog_1_method_7_code 31 = .ok (.iload_n 2, 1) := by decide +kernel
theorem d_FM_makes_32 : decode prog_1_method_7_code 32 = .ok (.invokevirtual 80, 3) := by decide +kernel
theorem d_FM_makes_35 : decode prog_1_method_7_code 35 = .ok (.lreturn, 1) := by decide +kernel
theorem d_FM_image_0 : decode prog_1_method_12_code 0 = .ok (.aload_n 0, 1) := by decide +kernel
theorem d_FM_image_1 : decode prog_1_method_12_code 1 = .ok (.getfield 26, 3) := by decide +kernel
theorem d_FM_image_4 : decode prog_1_method_12_code 4 = .ok (.aload_n 0, 1) := by decide +kernel
theorem d_FM_image_5 : decode prog_1_method_12_code 5 = .ok (.getfield 10, 3) := by decide +kernel
theorem d_FM_image_8 : decode prog_1_method_12_code 8 = .ok (.aload_n 0, 1) := by decide +kernel
theorem d_FM_image_9 : decode prog_1_method_12_code 9 = .ok (.getfield 19, 3) := by decide +kernel
theorem d_FM_image_12 : decode prog_1_method_12_code 12 = .ok (.invokevirtual 103, 3) := by decide +kernel
theorem d_FM_image_15 : decode prog_1_method_12_code 15 = .ok (.iload_n 1, 1) := by decide +kernel
theorem d_FM_image_16 : decode prog_1_method_12_code 16 = .ok (.iconst (-1), 1) := by decide +kernel
theorem d_FM_image_17 : decode prog_1_method_12_code 17 = .ok (.if_icmp .ne 12, 3) := by decide +kernel
theorem d_FM_image_20 : decode prog_1_method_12_code 20 = .ok (.aload_n 0, 1) := by decide +kernel
theorem d_FM_image_21 : decode prog_1_method_12_code 21 = .ok (.getfield 26, 3) := by decide +kernel
theorem d_FM_image_24 : decode prog_1_method_12_code 24 = .ok (.getfield 107, 3) := by decide +kernel
theorem d_FM_image_27 : decode prog_1_method_12_code 27 = .ok (.i2l, 1) := by decide +kernel
theorem d_FM_image_28 : decode prog_1_method_12_code 28 = .ok (.lreturn, 1) := by decide +kernel
theorem d_FM_image_29 : decode prog_1_method_12_code 29 = .ok (.iload_n 1, 1) := by decide +kernel
theorem d_FM_image_30 : decode prog_1_method_12_code 30 = .ok (.ifCond .lt 23, 3) := by decide +kernel
theorem d_FM_image_33 : decode prog_1_method_12_code 33 = .ok (.iload_n 1, 1) := by decide +kernel
theorem d_FM_image_34 : decode prog_1_method_12_code 34 = .ok (.aload_n 0, 1) := by decide +kernel
theorem d_FM_image_35 : decode prog_1_method_12_code 35 = .ok (.getfield 26, 3) := by decide +kernel
theorem d_FM_image_38 : decode prog_1_method_12_code 38 = .ok (.getfield 107, 3) := by decide +kernel
theorem d_FM_image_41 : decode prog_1_method_12_code 41 = .ok (.if_icmp .ge 12, 3) := by decide +kernel
theorem d_FM_image_44 : decode prog_1_method_12_code 44 = .ok (.iload_n 2, 1) := by decide +kernel
theorem d_FM_image_45 : decode prog_1_method_12_code 45 = .ok (.ifCond .lt 8, 3) := by decide +kernel
theorem d_FM_image_48 : decode prog_1_method_12_code 48 = .ok (.iload_n 2, 1) := by decide +kernel
theorem d_FM_image_49 : decode prog_1_method_12_code 49 = .ok (.iconst 3, 1) := by decide +kernel
theorem d_FM_image_50 : decode prog_1_method_12_code 50 = .ok (.if_icmp .le 13, 3) := by decide +kernel
theorem d_FM_image_53 : decode prog_1_method_12_code 53 = .ok (.new 60, 3) := by decide +kernel
theorem d_FM_image_56 : decode prog_1_method_12_code 56 = .ok (.dup, 1) := by decide +kernel
theorem d_FM_image_57 : decode prog_1_method_12_code 57 = .ok (.ldc 110, 2) := by decide +kernel
theorem d_FM_image_59 : decode prog_1_method_12_code 59 = .ok (.invokespecial 64, 3) := by decide +kernel
theorem d_FM_image_62 : decode prog_1_method_12_code 62 = .ok (.athrow, 1) := by decide +kernel
theorem d_FM_image_63 : decode prog_1_method_12_code 63 = .ok (.iload_n 2, 1) := by decide +kernel
theorem d_FM_image_64 : decode prog_1_method_12_code 64 = .ok (.iconst 3, 1) := by decide +kernel
theorem d_FM_image_65 : decode prog_1_method_12_code 65 = .ok (.if_icmp .ne 12, 3) := by decide +kernel
theorem d_FM_image_68 : decode prog_1_method_12_code 68 = .ok (.aload_n 0, 1) := by decide +kernel
theorem d_FM_image_69 : decode prog_1_method_12_code 69 = .ok (.getfield 26, 3) := by decide +kernel
theorem d_FM_image_72 : decode prog_1_method_12_code 72 = .ok (.getfield 112, 3) := by decide +kernel
theorem d_FM_image_75 : decode prog_1_method_12_code 75 = .ok (.i2l, 1) := by decide +kernel
theorem d_FM_image_76 : decode prog_1_method_12_code 76 = .ok (.lreturn, 1) := by decide +kernel
theorem d_FM_image_77 : decode prog_1_method_12_code 77 = .ok (.aload_n 0, 1) := by decide +kernel
theorem d_FM_image_78 : decode prog_1_method_12_code 78 = .ok (.getfield 26, 3) := by decide +kernel
theorem d_FM_image_81 : decode prog_1_method_12_code 81 = .ok (.iload_n 1, 1) := by decide +kernel
theorem d_FM_image_82 : decode prog_1_method_12_code 82 = .ok (.aload_n 0, 1) := by decide +kernel
theorem d_FM_image_83 : decode prog_1_method_12_code 83 = .ok (.getfield 10, 3) := by decide +kernel
theorem d_FM_image_86 : decode prog_1_method_12_code 86 = .ok (.aload_n 0, 1) := by decide +kernel
theorem d_FM_image_87 : decode prog_1_method_12_code 87 = .ok (.getfield 19, 3) := by decide +kernel
theorem d_FM_image_90 : decode prog_1_method_12_code 90 = .ok (.invokevirtual 115, 3) := by decide +kernel
theorem d_FM_image_93 : decode prog_1_method_12_code 93 = .ok (.iload_n 2, 1) := by decide +kernel
theorem d_FM_image_94 : decode prog_1_method_12_code 94 = .ok (.ifCond .ne 12, 3) := by decide +kernel
theorem d_FM_image_97 : decode prog_1_method_12_code 97 = .ok (.aload_n 0, 1) := by decide +kernel
theorem d_FM_image_98 : decode prog_1_method_12_code 98 = .ok (.getfield 26, 3) := by decide +kernel
theorem d_FM_image_101 : decode prog_1_method_12_code 101 = .ok (.getfield 119, 3) := by decide +kernel
theorem d_FM_image_104 : decode prog_1_method_12_code 104 = .ok (.i2l, 1) := by decide +kernel
theorem d_FM_image_105 : decode prog_1_method_12_code 105 = .ok (.lreturn, 1) := by decide +kernel
theorem d_FM_image_106 : decode prog_1_method_12_code 106 = .ok (.iload_n 2, 1) := by decide +kernel
theorem d_FM_image_107 : decode prog_1_method_12_code 107 = .ok (.iconst 1, 1) := by decide +kernel
theorem d_FM_image_108 : decode prog_1_method_12_code 108 = .ok (.if_icmp .ne 14, 3) := by decide +kernel
theorem d_FM_image_111 : decode prog_1_method_12_code 111 = .ok (.aload_n 0, 1) := by decide +kernel
theorem d_FM_image_112 : decode prog_1_method_12_code 112 = .ok (.getfield 26, 3) := by decide +kernel
theorem d_FM_image_115 : decode prog_1_method_12_code 115 = .ok (.getfield 122, 3) := by decide +kernel
theorem d_FM_image_118 : decode prog_1_method_12_code 118 = .ok (.i2l, 1) := by decide +kernel
theorem d_FM_image_119 : decode prog_1_method_12_code 119 = .ok (.goto 17, 3) := by decide +kernel
theorem d_FM_image_122 : decode prog_1_method_12_code 122 = .ok (.aload_n 0, 1) := by decide +kernel
theorem d_FM_image_123 : decode prog_1_method_12_code 123 = .ok (.getfield 26, 3) := by decide +kernel
theorem d_FM_image_126 : decode prog_1_method_12_code 126 = .ok (.aload_n 0, 1) := by decide +kernel
theorem d_FM_image_127 : decode prog_1_method_12_code 127 = .ok (.getfield 19, 3) := by decide +kernel
theorem d_FM_image_130 : decode prog_1_method_12_code 130 = .ok (.getfield 53, 3) := by decide +kernel
theorem d_FM_image_133 : decode prog_1_method_12_code 133 = .ok (.invokevirtual 125, 3) := by decide +kernel
theorem d_FM_image_136 : decode prog_1_method_12_code 136 = .ok (.lreturn, 1) := by decide +kernel
/-! FermionMaps.product(II)I -/
def f_FM_product (F : Nat) (sum_count : Int32) (sum_keys : Nat → Int32) (sum_numbers : Nat → Int32) (p1 : Int32) (p2 : Int32) : Option ((Option Int32)) :=
  if p1 < 0 then
    some (none)
  else
    if sum_count ≤ p1 then
      some (none)
    else
      if p2 < 0 then
        some (none)
      else
        if p2 ≤ 2 then
          if p2 = 0 then
            (f_Su_upsOf F sum_keys p1).bind fun u_9 =>
            some (some u_9)
          else
            if p2 = 1 then
              (f_Su_downsOf F sum_keys p1).bind fun u_8 =>
              some (some u_8)
            else
              ckI p1 60 <|
              some (some (sum_numbers p1.toNatClampNeg))
        else
          some (none)
abbrev rm_FM_product : Room := { frames := 6, cells := 1, slots := 6, locals := 90 }
set_option maxHeartbeats 4000000 in
set_option maxRecDepth 100000 in
theorem c_FM_product (l : Launch) (hfl : l.flags = flags0) (s0 : State) (hF : ThF s0) (dC : Nat → ClassId) (dI : Nat → Nat → Nat) (cI cJ : ClassId) (a_p0 a_sum a_sum_keys a_sum_numbers z_wiring z_picture z_sum_spareKeys z_sum_spareNumbers : Nat) (sz : Nat) (sum_count : Int32) (sum_keys : Nat → Int32) (sum_numbers : Nat → Int32) (p1 : Int32) (p2 : Int32) (F : Nat) (u : (Option Int32)) (hf : f_FM_product F sum_count sum_keys sum_numbers p1 p2 = some u) : MetX l y_FM_product (Cond.code y_FM_product prog_1_method_6_code 3 (some .int) :: T0) rm_FM_product (va_Pc [.ref a_p0, .int p1, .int p2] (Wx s0 (dC, dI) [(a_p0, .inr (3, [.ref a_sum, .ref z_wiring, .ref z_picture])), (a_sum, .inr (1, [.ref a_sum_keys, .ref a_sum_numbers, .ref z_sum_spareKeys, .ref z_sum_spareNumbers, .int sum_count])), (a_sum_keys, .inl (cI, 60, .inl sum_keys)), (a_sum_numbers, .inl (cI, 60, .inl sum_numbers))] [(cI, .int), (cJ, .long)] sz)) (QX (u.map Value.int) (Bw (dC, dI) [(cI, .int), (cJ, .long)] (va_A [(a_p0, .inr (3, [.ref a_sum, .ref z_wiring, .ref z_picture])), (a_sum, .inr (1, [.ref a_sum_keys, .ref a_sum_numbers, .ref z_sum_spareKeys, .ref z_sum_spareNumbers, .int sum_count])), (a_sum_keys, .inl (cI, 60, .inl sum_keys)), (a_sum_numbers, .inl (cI, 60, .inl sum_numbers))] sz) (fun w1 => w1 = [(a_p0, .inr (3, [.ref a_sum, .ref z_wiring, .ref z_picture])), (a_sum, .inr (1, [.ref a_sum_keys, .ref a_sum_numbers, .ref z_sum_spareKeys, .ref z_sum_spareNumbers, .int sum_count])), (a_sum_keys, .inl (cI, 60, .inl sum_keys)), (a_sum_numbers, .inl (cI, 60, .inl sum_numbers))]) ()) (va_A [(a_p0, .inr (3, [.ref a_sum, .ref z_wiring, .ref z_picture])), (a_sum, .inr (1, [.ref a_sum_keys, .ref a_sum_numbers, .ref z_sum_spareKeys, .ref z_sum_spareNumbers, .int sum_count])), (a_sum_keys, .inl (cI, 60, .inl sum_keys)), (a_sum_numbers, .inl (cI, 60, .inl sum_numbers))] sz)) 1 6 (va_A [(a_p0, .inr (3, [.ref a_sum, .ref z_wiring, .ref z_picture])), (a_sum, .inr (1, [.ref a_sum_keys, .ref a_sum_numbers, .ref z_sum_spareKeys, .ref z_sum_spareNumbers, .int sum_count])), (a_sum_keys, .inl (cI, 60, .inl sum_keys)), (a_sum_numbers, .inl (cI, 60, .inl sum_numbers))] sz) := by
  refine MetX.ofW (cc := prog_1_method_6_code) (maxL := 3) (ret := (some .int)) (by decide) rfl ?_
  intro p e s m args below meth c s₁ B hml hex hv
  obtain ⟨rfl, ⟨hsz, hP, hK, hD0, hNW⟩, hTZ⟩ := hv
  have htr : e.platform.stackTraces = false := Launch.traces_off hfl B.admits
  have hx := B.exec
  have hb := B.bytes
  have hr := B.returns
  have hts := atoms_spec (ws := Cond.code y_FM_product prog_1_method_6_code 3 (some .int) :: T0) B.pre
  have ht0 : ∀ w ∈ T0, w.before ([.ref a_p0, .int p1, .int p2] : List Value).toArray s = true := fun w h => hts w (List.mem_cons_of_mem _ h)
  have hown : s.vm.findClass "FermionMaps" = some m.cls := findClass_of_methodNamed B.named
  have hlocks := B.notSynchronized
  subst hsz
  have hP0 := hP
  have hD := hD0.self (sz := s.heap.size)
  generalize hAe : va_A [(a_p0, .inr (3, [.ref a_sum, .ref z_wiring, .ref z_picture])), (a_sum, .inr (1, [.ref a_sum_keys, .ref a_sum_numbers, .ref z_sum_spareKeys, .ref z_sum_spareNumbers, .int sum_count])), (a_sum_keys, .inl (cI, 60, .inl sum_keys)), (a_sum_numbers, .inl (cI, 60, .inl sum_numbers))] s.heap.size = A at hD ⊢
  have hA : ∀ q : Nat, s.heap.size ≤ q → A q := fun q h => by rw [← hAe]; exact Or.inr h
  have hS : va_S A s.heap s.heap [] := va_S.rf
  have hl := lv_entry ([.ref a_p0, .int p1, .int p2]) (n := 3) (Nat.le_of_ble_eq_true rfl)
  rw [lg_entry_eq]
  generalize (lg_sl ([.ref a_p0, .int p1, .int p2]) ++ List.replicate (3 - (lg_sl ([.ref a_p0, .int p1, .int p2])).length) Slot.unset).toArray = ls at hl ⊢
  have hl : lv_has ls 3 [(0, .ref a_p0), (1, .int p1), (2, .int p2)] := hl
  refine W.nameQ (fun Q hQ => ?_)
  rw [f_FM_product] at hf
  refine lv_iload_n hx hb d_FM_product_0 rfl (lv_at hl 1 rfl) ?_
  refine lv_if_lt (tgt := 24) hx hb d_FM_product_1 (by decide) (fun c_1 => ?_) (fun c_1 => ?_)
  · replace hf := if_t c_1 hf
    have hu := Option.some.inj hf
    subst hu
    exact rx_t (ks := 62) (tx := "no such product") hQ rfl rfl hP hD hK hS hA hP0 hAe hF hTZ htr hx hb hown hex hml hl.1 hlocks (ht0 _ m_329) (ht0 _ m_330) (ht0 _ m_11) (by decide +kernel) d_FM_product_24 d_FM_product_27 d_FM_product_28 d_FM_product_30 d_FM_product_33 (Nat.le_of_ble_eq_true rfl) (Nat.le_of_ble_eq_true rfl) (Nat.le_of_ble_eq_true rfl) (Nat.le_of_ble_eq_true rfl)
  · replace hf := if_f c_1 hf
    refine lv_iload_n hx hb d_FM_product_4 rfl (lv_at hl 1 rfl) ?_
    refine lv_aload_n hx hb d_FM_product_5 rfl (lv_at hl 0 rfl) ?_
    refine va_get (D := (dC, dI)) (ci := 3) (v := .ref a_sum) (C := "FermionMaps") (T := F_FM) (N := 3) hx hb ht0 i_FM hown hK hP 0 rfl rfl 0 (by decide) (ht0 _ m_131) (fun _ h9 => h9) rfl d_FM_product_6 ?_
    refine va_get (D := (dC, dI)) (ci := 1) (v := .int sum_count) (C := "FermionMaps$Sum") (T := F_Su) (N := 5) hx hb ht0 i_Su hown hK hP 1 rfl rfl 4 (by decide) (ht0 _ m_33) (fun _ h9 => h9) rfl d_FM_product_9 ?_
    refine lv_icmp_ge (tgt := 24) hx hb d_FM_product_12 (by decide) (fun c_2 => ?_) (fun c_2 => ?_)
    · replace hf := if_t c_2 hf
      have hu := Option.some.inj hf
      subst hu
      exact rx_t (ks := 62) (tx := "no such product") hQ rfl rfl hP hD hK hS hA hP0 hAe hF hTZ htr hx hb hown hex hml hl.1 hlocks (ht0 _ m_329) (ht0 _ m_330) (ht0 _ m_11) (by decide +kernel) d_FM_product_24 d_FM_product_27 d_FM_product_28 d_FM_product_30 d_FM_product_33 (Nat.le_of_ble_eq_true rfl) (Nat.le_of_ble_eq_true rfl) (Nat.le_of_ble_eq_true rfl) (Nat.le_of_ble_eq_true rfl)
    · replace hf := if_f c_2 hf
      refine lv_iload_n hx hb d_FM_product_15 rfl (lv_at hl 2 rfl) ?_
      refine lv_if_lt (tgt := 24) hx hb d_FM_product_16 (by decide) (fun c_3 => ?_) (fun c_3 => ?_)
      · replace hf := if_t c_3 hf
        have hu := Option.some.inj hf
        subst hu
        exact rx_t (ks := 62) (tx := "no such product") hQ rfl rfl hP hD hK hS hA hP0 hAe hF hTZ htr hx hb hown hex hml hl.1 hlocks (ht0 _ m_329) (ht0 _ m_330) (ht0 _ m_11) (by decide +kernel) d_FM_product_24 d_FM_product_27 d_FM_product_28 d_FM_product_30 d_FM_product_33 (Nat.le_of_ble_eq_true rfl) (Nat.le_of_ble_eq_true rfl) (Nat.le_of_ble_eq_true rfl) (Nat.le_of_ble_eq_true rfl)
      · replace hf := if_f c_3 hf
        refine lv_iload_n hx hb d_FM_product_19 rfl (lv_at hl 2 rfl) ?_
        refine lv_iconst (v := 2) hx hb d_FM_product_20 (by decide) ?_
        refine lv_icmp_le (tgt := 34) hx hb d_FM_product_21 (by decide) (fun c_4 => ?_) (fun c_4 => ?_)
        · replace hf := if_t c_4 hf
          refine lv_iload_n hx hb d_FM_product_34 rfl (lv_at hl 2 rfl) ?_
          refine lv_if_ne (tgt := 47) hx hb d_FM_product_35 (by decide) (fun c_5 => ?_) (fun c_5 => ?_)
          · replace hf := if_f c_5 hf
            refine lv_iload_n hx hb d_FM_product_47 rfl (lv_at hl 2 rfl) ?_
            refine lv_iconst (v := 1) hx hb d_FM_product_48 (by decide) ?_
            refine lv_icmp_ne (tgt := 63) hx hb d_FM_product_49 (by decide) (fun c_6 => ?_) (fun c_6 => ?_)
            · replace hf := if_f c_6 hf
              refine lv_aload_n hx hb d_FM_product_63 rfl (lv_at hl 0 rfl) ?_
              refine va_get (D := (dC, dI)) (ci := 3) (v := .ref a_sum) (C := "FermionMaps") (T := F_FM) (N := 3) hx hb ht0 i_FM hown hK hP 0 rfl rfl 0 (by decide) (ht0 _ m_131) (fun _ h9 => h9) rfl d_FM_product_64 ?_
              refine va_get (D := (dC, dI)) (ci := 1) (v := .ref a_sum_numbers) (C := "FermionMaps$Sum") (T := F_Su) (N := 5) hx hb ht0 i_Su hown hK hP 1 rfl rfl 1 (by decide) (ht0 _ m_29) (fun _ h9 => h9) rfl d_FM_product_67 ?_
              refine lv_iload_n hx hb d_FM_product_70 rfl (lv_at hl 1 rfl) ?_
              obtain ⟨hi_7, hf⟩ := ckI_ok hf
              refine va_iald hx hb hK hP 3 0 rfl rfl hi_7 d_FM_product_71 ?_
              have hu := Option.some.inj hf
              subst hu
              exact rx_i hQ rfl rfl hP hD hK hS hx hb hr hlocks d_FM_product_72 (Nat.zero_le _) (Nat.zero_le _)
            · replace hf := if_t c_6 hf
              refine lv_aload_n hx hb d_FM_product_52 rfl (lv_at hl 0 rfl) ?_
              refine va_get (D := (dC, dI)) (ci := 3) (v := .ref a_sum) (C := "FermionMaps") (T := F_FM) (N := 3) hx hb ht0 i_FM hown hK hP 0 rfl rfl 0 (by decide) (ht0 _ m_131) (fun _ h9 => h9) rfl d_FM_product_53 ?_
              refine lv_iload_n hx hb d_FM_product_56 rfl (lv_at hl 1 rfl) ?_
              obtain ⟨u_8, h_u_8, hf⟩ := bd hf
              refine rd_i (rdV_run (As := [.int p1]) (rest := []) ⟨hx, hb, hml, hown, ht0⟩ (c_Su_downsOf l dC dI cI cJ a_sum a_sum_keys a_sum_numbers z_sum_spareKeys z_sum_spareNumbers sum_count sum_keys p1 F u_8 h_u_8) (cwV 1 ht0 (gV m_396 m_274 m_275 m_2 m_276) rfl rfl rfl (by decide +kernel) ⟨Nat.le_of_ble_eq_true rfl, Nat.le_of_ble_eq_true rfl⟩) hK hNW hP [1, 2] rfl (ci := 1) (q0 := 1) rfl rfl rfl hl.1 rfl (Nat.le_of_ble_eq_true rfl) d_FM_product_57 ⟨Nat.zero_le _, Nat.zero_le _⟩) ?_
              refine lv_goto (tgt := 72) hx hb d_FM_product_60 (by decide) ?_
              have hu := Option.some.inj hf
              subst hu
              exact rx_i hQ rfl rfl hP hD hK hS hx hb hr hlocks d_FM_product_72 (Nat.zero_le _) (Nat.zero_le _)
          · replace hf := if_t c_5 hf
            refine lv_aload_n hx hb d_FM_product_38 rfl (lv_at hl 0 rfl) ?_
            refine va_get (D := (dC, dI)) (ci := 3) (v := .ref a_sum) (C := "FermionMaps") (T := F_FM) (N := 3) hx hb ht0 i_FM hown hK hP 0 rfl rfl 0 (by decide) (ht0 _ m_131) (fun _ h9 => h9) rfl d_FM_product_39 ?_
            refine lv_iload_n hx hb d_FM_product_42 rfl (lv_at hl 1 rfl) ?_
            obtain ⟨u_9, h_u_9, hf⟩ := bd hf
            refine rd_i (rdV_run (As := [.int p1]) (rest := []) ⟨hx, hb, hml, hown, ht0⟩ (c_Su_upsOf l dC dI cI cJ a_sum a_sum_keys a_sum_numbers z_sum_spareKeys z_sum_spareNumbers sum_count sum_keys p1 F u_9 h_u_9) (cwV 1 ht0 (gV m_395 m_270 m_271 m_2 m_272) rfl rfl rfl (by decide +kernel) ⟨Nat.le_of_ble_eq_true rfl, Nat.le_of_ble_eq_true rfl⟩) hK hNW hP [1, 2] rfl (ci := 1) (q0 := 1) rfl rfl rfl hl.1 rfl (Nat.le_of_ble_eq_true rfl) d_FM_product_43 ⟨Nat.zero_le _, Nat.zero_le _⟩) ?_
            have hu := Option.some.inj hf
            subst hu
            exact rx_i hQ rfl rfl hP hD hK hS hx hb hr hlocks d_FM_product_46 (Nat.zero_le _) (Nat.zero_le _)
        · replace hf := if_f c_4 hf
          have hu := Option.some.inj hf
          subst hu
          exact rx_t (ks := 62) (tx := "no such product") hQ rfl rfl hP hD hK hS hA hP0 hAe hF hTZ htr hx hb hown hex hml hl.1 hlocks (ht0 _ m_329) (ht0 _ m_330) (ht0 _ m_11) (by decide +kernel) d_FM_product_24 d_FM_product_27 d_FM_product_28 d_FM_product_30 d_FM_product_33 (Nat.le_of_ble_eq_true rfl) (Nat.le_of_ble_eq_true rfl) (Nat.le_of_ble_eq_true rfl) (Nat.le_of_ble_eq_true rfl)

/-! FermionMaps.makes(II)J -/
def f_FM_makes (F : Nat) (sum_count : Int32) (sum_keys : Nat → Int32) (sum_numbers : Nat → Int32) (wiring_size : Int32) (p1 : Int32) (p2 : Int32) : Option ((Option Int64)) :=
  (f_FM_isSet F wiring_size p1).bind fun u_1 =>
  if u_1 = 0 then
    some (none)
  else
    (f_FM_isSet F wiring_size p2).bind fun u_3 =>
    if u_3 = 0 then
      some (none)
    else
      (f_Su_between F sum_count sum_keys sum_numbers p1 p2).bind fun u_5 =>
      some (some u_5)
abbrev rm_FM_makes : Room := { frames := 6, cells := 1, slots := 6, locals := 90 }
set_option maxHeartbeats 4000000 in
set_option maxRecDepth 100000 in
theorem c_FM_makes (l : Launch) (hfl : l.flags = flags0) (s0 : State) (hF : ThF s0) (dC : Nat → ClassId) (dI : Nat → Nat → Nat) (cI cJ : ClassId) (a_p0 a_sum a_sum_keys a_sum_numbers a_wiring z_picture z_sum_spareKeys z_sum_spareNumbers z_wiring_told z_wiring_rows z_wiring_back z_wiring_spareBack z_wiring_left : Nat) (sz : Nat) (sum_count : Int32) (sum_keys : Nat → Int32) (sum_numbers : Nat → Int32) (wiring_size : Int32) (wiring_kind : Int32) (p1 : Int32) (p2 : Int32) (F : Nat) (u : (Option Int64)) (hf : f_FM_makes F sum_count sum_keys sum_numbers wiring_size p1 p2 = some u) : MetX l y_FM_makes (Cond.code y_FM_makes prog_1_method_7_code 3 (some .long) :: T0) rm_FM_makes (va_Pc [.ref a_p0, .int p1, .int p2] (Wx s0 (dC, dI) [(a_p0, .inr (3, [.ref a_sum, .ref a_wiring, .ref z_picture])), (a_sum, .inr (1, [.ref a_sum_keys, .ref a_sum_numbers, .ref z_sum_spareKeys, .ref z_sum_spareNumbers, .int sum_count])), (a_sum_keys, .inl (cI, 60, .inl sum_keys)), (a_sum_numbers, .inl (cI, 60, .inl sum_numbers)), (a_wiring, .inr (2, [.ref z_wiring_told, .ref z_wiring_rows, .ref z_wiring_back, .ref z_wiring_spareBack, .ref z_wiring_left, .int wiring_size, .int wiring_kind]))] [(cI, .int), (cJ, .long)] sz)) (QX (u.map Value.long) (Bw (dC, dI) [(cI, .int), (cJ, .long)] (va_A [(a_p0, .inr (3, [.ref a_sum, .ref a_wiring, .ref z_picture])), (a_sum, .inr (1, [.ref a_sum_keys, .ref a_sum_numbers, .ref z_sum_spareKeys, .ref z_sum_spareNumbers, .int sum_count])), (a_sum_keys, .inl (cI, 60, .inl sum_keys)), (a_sum_numbers, .inl (cI, 60, .inl sum_numbers)), (a_wiring, .inr (2, [.ref z_wiring_told, .ref z_wiring_rows, .ref z_wiring_back, .ref z_wiring_spareBack, .ref z_wiring_left, .int wiring_size, .int wiring_kind]))] sz) (fun w1 => w1 = [(a_p0, .inr (3, [.ref a_sum, .ref a_wiring, .ref z_picture])), (a_sum, .inr (1, [.ref a_sum_keys, .ref a_sum_numbers, .ref z_sum_spareKeys, .ref z_sum_spareNumbers, .int sum_count])), (a_sum_keys, .inl (cI, 60, .inl sum_keys)), (a_sum_numbers, .inl (cI, 60, .inl sum_numbers)), (a_wiring, .inr (2, [.ref z_wiring_told, .ref z_wiring_rows, .ref z_wiring_back, .ref z_wiring_spareBack, .ref z_wiring_left, .int wiring_size, .int wiring_kind]))]) ()) (va_A [(a_p0, .inr (3, [.ref a_sum, .ref a_wiring, .ref z_picture])), (a_sum, .inr (1, [.ref a_sum_keys, .ref a_sum_numbers, .ref z_sum_spareKeys, .ref z_sum_spareNumbers, .int sum_count])), (a_sum_keys, .inl (cI, 60, .inl sum_keys)), (a_sum_numbers, .inl (cI, 60, .inl sum_numbers)), (a_wiring, .inr (2, [.ref z_wiring_told, .ref z_wiring_rows, .ref z_wiring_back, .ref z_wiring_spareBack, .ref z_wiring_left, .int wiring_size, .int wiring_kind]))] sz)) 1 6 (va_A [(a_p0, .inr (3, [.ref a_sum, .ref a_wiring, .ref z_picture])), (a_sum, .inr (1, [.ref a_sum_keys, .ref a_sum_numbers, .ref z_sum_spareKeys, .ref z_sum_spareNumbers, .int sum_count])), (a_sum_keys, .inl (cI, 60, .inl sum_keys)), (a_sum_numbers, .inl (cI, 60, .inl sum_numbers)), (a_wiring, .inr (2, [.ref z_wiring_told, .ref z_wiring_rows, .ref z_wiring_back, .ref z_wiring_spareBack, .ref z_wiring_left, .int wiring_size, .int wiring_kind]))] sz) := by
  refine MetX.ofW (cc := prog_1_method_7_code) (maxL := 3) (ret := (some .long)) (by decide) rfl ?_
  intro p e s m args below meth c s₁ B hml hex hv
  obtain ⟨rfl, ⟨hsz, hP, hK, hD0, hNW⟩, hTZ⟩ := hv
  have htr : e.platform.stackTraces = false := Launch.traces_off hfl B.admits
  have hx := B.exec
  have hb := B.bytes
  have hr := B.returns
  have hts := atoms_spec (ws := Cond.code y_FM_makes prog_1_method_7_code 3 (some .long) :: T0) B.pre
  have ht0 : ∀ w ∈ T0, w.before ([.ref a_p0, .int p1, .int p2] : List Value).toArray s = true := fun w h => hts w (List.mem_cons_of_mem _ h)
  have hown : s.vm.findClass "FermionMaps" = some m.cls := findClass_of_methodNamed B.named
  have hlocks := B.notSynchronized
  subst hsz
  have hP0 := hP
  have hD := hD0.self (sz := s.heap.size)
  generalize hAe : va_A [(a_p0, .inr (3, [.ref a_sum, .ref a_wiring, .ref z_picture])), (a_sum, .inr (1, [.ref a_sum_keys, .ref a_sum_numbers, .ref z_sum_spareKeys, .ref z_sum_spareNumbers, .int sum_count])), (a_sum_keys, .inl (cI, 60, .inl sum_keys)), (a_sum_numbers, .inl (cI, 60, .inl sum_numbers)), (a_wiring, .inr (2, [.ref z_wiring_told, .ref z_wiring_rows, .ref z_wiring_back, .ref z_wiring_spareBack, .ref z_wiring_left, .int wiring_size, .int wiring_kind]))] s.heap.size = A at hD ⊢
  have hA : ∀ q : Nat, s.heap.size ≤ q → A q := fun q h => by rw [← hAe]; exact Or.inr h
  have hS : va_S A s.heap s.heap [] := va_S.rf
  have hl := lv_entry ([.ref a_p0, .int p1, .int p2]) (n := 3) (Nat.le_of_ble_eq_true rfl)
  rw [lg_entry_eq]
  generalize (lg_sl ([.ref a_p0, .int p1, .int p2]) ++ List.replicate (3 - (lg_sl ([.ref a_p0, .int p1, .int p2])).length) Slot.unset).toArray = ls at hl ⊢
  have hl : lv_has ls 3 [(0, .ref a_p0), (1, .int p1), (2, .int p2)] := hl
  refine W.nameQ (fun Q hQ => ?_)
  rw [f_FM_makes] at hf
  refine lv_aload_n hx hb d_FM_makes_0 rfl (lv_at hl 0 rfl) ?_
  refine lv_iload_n hx hb d_FM_makes_1 rfl (lv_at hl 1 rfl) ?_
  obtain ⟨u_1, h_u_1, hf⟩ := bd hf
  refine rd_i (rdV_run (As := [.int p1]) (rest := []) ⟨hx, hb, hml, hown, ht0⟩ (c_FM_isSet l dC dI cI cJ a_p0 a_wiring a_sum z_picture z_wiring_told z_wiring_rows z_wiring_back z_wiring_spareBack z_wiring_left wiring_size wiring_kind p1 F u_1 h_u_1) (cwV 1 ht0 (gV m_149 m_151 (T0_pr (y := ⟨"FermionMaps", "isSet", "(I)Z"⟩) (i := 0) rfl rfl) m_1 m_152) rfl rfl rfl (by decide +kernel) ⟨Nat.le_of_ble_eq_true rfl, Nat.le_of_ble_eq_true rfl⟩) hK hNW hP [0, 4] rfl (ci := 3) (q0 := 0) rfl rfl rfl hl.1 rfl (Nat.le_of_ble_eq_true rfl) d_FM_makes_2 ⟨Nat.zero_le _, Nat.zero_le _⟩) ?_
  refine lv_if_eq (tgt := 16) hx hb d_FM_makes_5 (by decide) (fun c_2 => ?_) (fun c_2 => ?_)
  · replace hf := if_t c_2 hf
    have hu := Option.some.inj hf
    subst hu
    exact rx_t (ks := 78) (tx := "no such state") hQ rfl rfl hP hD hK hS hA hP0 hAe hF hTZ htr hx hb hown hex hml hl.1 hlocks (ht0 _ m_329) (ht0 _ m_330) (ht0 _ m_11) (by decide +kernel) d_FM_makes_16 d_FM_makes_19 d_FM_makes_20 d_FM_makes_22 d_FM_makes_25 (Nat.le_of_ble_eq_true rfl) (Nat.le_of_ble_eq_true rfl) (Nat.le_of_ble_eq_true rfl) (Nat.le_of_ble_eq_true rfl)
  · replace hf := if_f c_2 hf
    refine lv_aload_n hx hb d_FM_makes_8 rfl (lv_at hl 0 rfl) ?_
    refine lv_iload_n hx hb d_FM_makes_9 rfl (lv_at hl 2 rfl) ?_
    obtain ⟨u_3, h_u_3, hf⟩ := bd hf
    refine rd_i (rdV_run (As := [.int p2]) (rest := []) ⟨hx, hb, hml, hown, ht0⟩ (c_FM_isSet l dC dI cI cJ a_p0 a_wiring a_sum z_picture z_wiring_told z_wiring_rows z_wiring_back z_wiring_spareBack z_wiring_left wiring_size wiring_kind p2 F u_3 h_u_3) (cwV 1 ht0 (gV m_149 m_151 (T0_pr (y := ⟨"FermionMaps", "isSet", "(I)Z"⟩) (i := 0) rfl rfl) m_1 m_152) rfl rfl rfl (by decide +kernel) ⟨Nat.le_of_ble_eq_true rfl, Nat.le_of_ble_eq_true rfl⟩) hK hNW hP [0, 4] rfl (ci := 3) (q0 := 0) rfl rfl rfl hl.1 rfl (Nat.le_of_ble_eq_true rfl) d_FM_makes_10 ⟨Nat.zero_le _, Nat.zero_le _⟩) ?_
    refine lv_if_ne (tgt := 26) hx hb d_FM_makes_13 (by decide) (fun c_4 => ?_) (fun c_4 => ?_)
    · replace hf := if_f c_4 hf
      refine lv_aload_n hx hb d_FM_makes_26 rfl (lv_at hl 0 rfl) ?_
      refine va_get (D := (dC, dI)) (ci := 3) (v := .ref a_sum) (C := "FermionMaps") (T := F_FM) (N := 3) hx hb ht0 i_FM hown hK hP 0 rfl rfl 0 (by decide) (ht0 _ m_131) (fun _ h9 => h9) rfl d_FM_makes_27 ?_
      refine lv_iload_n hx hb d_FM_makes_30 rfl (lv_at hl 1 rfl) ?_
      refine lv_iload_n hx hb d_FM_makes_31 rfl (lv_at hl 2 rfl) ?_
      obtain ⟨u_5, h_u_5, hf⟩ := bd hf
      refine rd_l (rdV_run (As := [.int p1, .int p2]) (rest := []) ⟨hx, hb, hml, hown, ht0⟩ (c_Su_between l dC dI cI cJ a_sum a_sum_keys a_sum_numbers z_sum_spareKeys z_sum_spareNumbers sum_count sum_keys sum_numbers p1 p2 F u_5 h_u_5) (cwV 2 ht0 (gV m_405 m_406 m_407 m_2 m_408) rfl rfl rfl (by decide +kernel) ⟨Nat.le_of_ble_eq_true rfl, Nat.le_of_ble_eq_true rfl⟩) hK hNW hP [1, 2, 3] rfl (ci := 1) (q0 := 1) rfl rfl rfl hl.1 rfl (Nat.le_of_ble_eq_true rfl) d_FM_makes_32 ⟨Nat.zero_le _, Nat.zero_le _⟩) ?_
      have hu := Option.some.inj hf
      subst hu
      exact rx_l hQ rfl rfl hP hD hK hS hx hb hr hlocks d_FM_makes_35 (Nat.zero_le _) (Nat.zero_le _)
    · replace hf := if_t c_4 hf
      have hu := Option.some.inj hf
      subst hu
      exact rx_t (ks := 78) (tx := "no such state") hQ rfl rfl hP hD hK hS hA hP0 hAe hF hTZ htr hx hb hown hex hml hl.1 hlocks (ht0 _ m_329) (ht0 _ m_330) (ht0 _ m_11) (by decide +kernel) d_FM_makes_16 d_FM_makes_19 d_FM_makes_20 d_FM_makes_22 d_FM_makes_25 (Nat.le_of_ble_eq_true rfl) (Nat.le_of_ble_eq_true rfl) (Nat.le_of_ble_eq_true rfl) (Nat.le_of_ble_eq_true rfl)

/-! FermionMaps.image(II)J -/
def f_FM_image (F : Nat) (sum_count : Int32) (sum_keys : Nat → Int32) (sum_numbers : Nat → Int32) (wiring_size : Int32) (wiring_rows : Nat → Int32) (wiring_back : Nat → Int32) (picture_drawn : Int32) (picture_held : Int32) (picture_terms : Int32) (picture_widest : Int32) (picture_halvings : Int32) (picture_foundSigns : Int32) (picture_flipsOf : Nat → Int32) (picture_termsAt : Nat → Int32) (picture_numbers : Nat → Int64) (picture_spread : Nat → Int32) (p1 : Int32) (p2 : Int32) : Option ((Option Int64) × Int32 × Int32 × Int32 × Int32 × Int32 × Int32 × (Nat → Int32) × (Nat → Int32) × (Nat → Int64) × (Nat → Int32)) :=
  (f_Pi_draw F picture_drawn picture_held picture_terms picture_widest picture_halvings picture_flipsOf picture_termsAt picture_numbers picture_spread sum_count sum_keys sum_numbers wiring_size wiring_rows wiring_back).bind fun u_1 =>
  if p1 = (-1) then
    some (some (u_1.2.2.1.toInt64), u_1.1, u_1.2.1, u_1.2.2.1, u_1.2.2.2.1, u_1.2.2.2.2.1, picture_foundSigns, u_1.2.2.2.2.2.1, u_1.2.2.2.2.2.2.1, u_1.2.2.2.2.2.2.2.1, u_1.2.2.2.2.2.2.2.2)
  else
    if p1 < 0 then
      some (none, u_1.1, u_1.2.1, u_1.2.2.1, u_1.2.2.2.1, u_1.2.2.2.2.1, picture_foundSigns, u_1.2.2.2.2.2.1, u_1.2.2.2.2.2.2.1, u_1.2.2.2.2.2.2.2.1, u_1.2.2.2.2.2.2.2.2)
    else
      if u_1.2.2.1 ≤ p1 then
        some (none, u_1.1, u_1.2.1, u_1.2.2.1, u_1.2.2.2.1, u_1.2.2.2.2.1, picture_foundSigns, u_1.2.2.2.2.2.1, u_1.2.2.2.2.2.2.1, u_1.2.2.2.2.2.2.2.1, u_1.2.2.2.2.2.2.2.2)
      else
        if p2 < 0 then
          some (none, u_1.1, u_1.2.1, u_1.2.2.1, u_1.2.2.2.1, u_1.2.2.2.2.1, picture_foundSigns, u_1.2.2.2.2.2.1, u_1.2.2.2.2.2.2.1, u_1.2.2.2.2.2.2.2.1, u_1.2.2.2.2.2.2.2.2)
        else
          if p2 ≤ 3 then
            if p2 = 3 then
              some (some (u_1.2.2.2.2.1.toInt64), u_1.1, u_1.2.1, u_1.2.2.1, u_1.2.2.2.1, u_1.2.2.2.2.1, picture_foundSigns, u_1.2.2.2.2.2.1, u_1.2.2.2.2.2.2.1, u_1.2.2.2.2.2.2.2.1, u_1.2.2.2.2.2.2.2.2)
            else
              (f_Pi_find F u_1.2.1 picture_foundSigns u_1.2.2.2.2.2.1 u_1.2.2.2.2.2.2.1 u_1.2.2.2.2.2.2.2.1 u_1.2.2.2.2.2.2.2.2 sum_count sum_keys sum_numbers wiring_size wiring_back p1).bind fun u_8 =>
              if p2 = 0 then
                some (some (u_8.1.toInt64), u_1.1, u_8.1, u_1.2.2.1, u_1.2.2.2.1, u_1.2.2.2.2.1, u_8.2.1, u_1.2.2.2.2.2.1, u_1.2.2.2.2.2.2.1, u_8.2.2.1, u_8.2.2.2)
              else
                if p2 = 1 then
                  some (some (u_8.2.1.toInt64), u_1.1, u_8.1, u_1.2.2.1, u_1.2.2.2.1, u_1.2.2.2.2.1, u_8.2.1, u_1.2.2.2.2.2.1, u_1.2.2.2.2.2.2.1, u_8.2.2.1, u_8.2.2.2)
                else
                  (f_Pi_foundNumber F u_1.2.2.2.2.1 u_8.2.1 u_8.2.2.1 wiring_size).bind fun u_11 =>
                  some (some u_11, u_1.1, u_8.1, u_1.2.2.1, u_1.2.2.2.1, u_1.2.2.2.2.1, u_8.2.1, u_1.2.2.2.2.2.1, u_1.2.2.2.2.2.2.1, u_8.2.2.1, u_8.2.2.2)
          else
            some (none, u_1.1, u_1.2.1, u_1.2.2.1, u_1.2.2.2.1, u_1.2.2.2.2.1, picture_foundSigns, u_1.2.2.2.2.2.1, u_1.2.2.2.2.2.2.1, u_1.2.2.2.2.2.2.2.1, u_1.2.2.2.2.2.2.2.2)
abbrev rm_FM_image : Room := { frames := 6, cells := 1, slots := 6, locals := 143 }
set_option maxHeartbeats 4000000 in
set_option maxRecDepth 100000 in
theorem c_FM_image (l : Launch) (hfl : l.flags = flags0) (s0 : State) (hF : ThF s0) (dC : Nat → ClassId) (dI : Nat → Nat → Nat) (cI cJ : ClassId) (a_p0 a_sum a_sum_keys a_sum_numbers a_wiring a_wiring_rows a_wiring_back a_picture a_picture_flipsOf a_picture_termsAt a_picture_numbers a_picture_spread z_sum_spareKeys z_sum_spareNumbers z_wiring_told z_wiring_spareBack z_wiring_left : Nat) (sz : Nat) (sum_count : Int32) (sum_keys : Nat → Int32) (sum_numbers : Nat → Int32) (wiring_size : Int32) (wiring_kind : Int32) (wiring_rows : Nat → Int32) (wiring_back : Nat → Int32) (picture_drawn : Int32) (picture_held : Int32) (picture_terms : Int32) (picture_widest : Int32) (picture_halvings : Int32) (picture_foundSigns : Int32) (picture_flipsOf : Nat → Int32) (picture_termsAt : Nat → Int32) (picture_numbers : Nat → Int64) (picture_spread : Nat → Int32) (p1 : Int32) (p2 : Int32) (F : Nat) (u : (Option Int64) × Int32 × Int32 × Int32 × Int32 × Int32 × Int32 × (Nat → Int32) × (Nat → Int32) × (Nat → Int64) × (Nat → Int32)) (hf : f_FM_image F sum_count sum_keys sum_numbers wiring_size wiring_rows wiring_back picture_drawn picture_held picture_terms picture_widest picture_halvings picture_foundSigns picture_flipsOf picture_termsAt picture_numbers picture_spread p1 p2 = some u) : MetX l y_FM_image (Cond.code y_FM_image prog_1_method_12_code 3 (some .long) :: T0) rm_FM_image (va_Pc [.ref a_p0, .int p1, .int p2] (Wx s0 (dC, dI) [(a_p0, .inr (3, [.ref a_sum, .ref a_wiring, .ref a_picture])), (a_sum, .inr (1, [.ref a_sum_keys, .ref a_sum_numbers, .ref z_sum_spareKeys, .ref z_sum_spareNumbers, .int sum_count])), (a_sum_keys, .inl (cI, 60, .inl sum_keys)), (a_sum_numbers, .inl (cI, 60, .inl sum_numbers)), (a_wiring, .inr (2, [.ref z_wiring_told, .ref a_wiring_rows, .ref a_wiring_back, .ref z_wiring_spareBack, .ref z_wiring_left, .int wiring_size, .int wiring_kind])), (a_wiring_rows, .inl (cI, 8, .inl wiring_rows)), (a_wiring_back, .inl (cI, 8, .inl wiring_back)), (a_picture, .inr (0, [.ref a_picture_flipsOf, .ref a_picture_termsAt, .ref a_picture_numbers, .ref a_picture_spread, .int picture_drawn, .int picture_held, .int picture_terms, .int picture_widest, .int picture_halvings, .int picture_foundSigns])), (a_picture_flipsOf, .inl (cI, 60, .inl picture_flipsOf)), (a_picture_termsAt, .inl (cI, 256, .inl picture_termsAt)), (a_picture_numbers, .inl (cJ, 256, .inr (.inl picture_numbers))), (a_picture_spread, .inl (cI, 256, .inl picture_spread))] [(cI, .int), (cJ, .long)] sz)) (QX (u.1.map Value.long) (Bw (dC, dI) [(cI, .int), (cJ, .long)] (va_A [(a_p0, .inr (3, [.ref a_sum, .ref a_wiring, .ref a_picture])), (a_sum, .inr (1, [.ref a_sum_keys, .ref a_sum_numbers, .ref z_sum_spareKeys, .ref z_sum_spareNumbers, .int sum_count])), (a_sum_keys, .inl (cI, 60, .inl sum_keys)), (a_sum_numbers, .inl (cI, 60, .inl sum_numbers)), (a_wiring, .inr (2, [.ref z_wiring_told, .ref a_wiring_rows, .ref a_wiring_back, .ref z_wiring_spareBack, .ref z_wiring_left, .int wiring_size, .int wiring_kind])), (a_wiring_rows, .inl (cI, 8, .inl wiring_rows)), (a_wiring_back, .inl (cI, 8, .inl wiring_back)), (a_picture, .inr (0, [.ref a_picture_flipsOf, .ref a_picture_termsAt, .ref a_picture_numbers, .ref a_picture_spread, .int picture_drawn, .int picture_held, .int picture_terms, .int picture_widest, .int picture_halvings, .int picture_foundSigns])), (a_picture_flipsOf, .inl (cI, 60, .inl picture_flipsOf)), (a_picture_termsAt, .inl (cI, 256, .inl picture_termsAt)), (a_picture_numbers, .inl (cJ, 256, .inr (.inl picture_numbers))), (a_picture_spread, .inl (cI, 256, .inl picture_spread))] sz) (fun w1 => w1 = [(a_p0, .inr (3, [.ref a_sum, .ref a_wiring, .ref a_picture])), (a_sum, .inr (1, [.ref a_sum_keys, .ref a_sum_numbers, .ref z_sum_spareKeys, .ref z_sum_spareNumbers, .int sum_count])), (a_sum_keys, .inl (cI, 60, .inl sum_keys)), (a_sum_numbers, .inl (cI, 60, .inl sum_numbers)), (a_wiring, .inr (2, [.ref z_wiring_told, .ref a_wiring_rows, .ref a_wiring_back, .ref z_wiring_spareBack, .ref z_wiring_left, .int wiring_size, .int wiring_kind])), (a_wiring_rows, .inl (cI, 8, .inl wiring_rows)), (a_wiring_back, .inl (cI, 8, .inl wiring_back)), (a_picture, .inr (0, [.ref a_picture_flipsOf, .ref a_picture_termsAt, .ref a_picture_numbers, .ref a_picture_spread, .int u.2.1, .int u.2.2.1, .int u.2.2.2.1, .int u.2.2.2.2.1, .int u.2.2.2.2.2.1, .int u.2.2.2.2.2.2.1])), (a_picture_flipsOf, .inl (cI, 60, .inl u.2.2.2.2.2.2.2.1)), (a_picture_termsAt, .inl (cI, 256, .inl u.2.2.2.2.2.2.2.2.1)), (a_picture_numbers, .inl (cJ, 256, .inr (.inl u.2.2.2.2.2.2.2.2.2.1))), (a_picture_spread, .inl (cI, 256, .inl u.2.2.2.2.2.2.2.2.2.2))]) ()) (va_A [(a_p0, .inr (3, [.ref a_sum, .ref a_wiring, .ref a_picture])), (a_sum, .inr (1, [.ref a_sum_keys, .ref a_sum_numbers, .ref z_sum_spareKeys, .ref z_sum_spareNumbers, .int sum_count])), (a_sum_keys, .inl (cI, 60, .inl sum_keys)), (a_sum_numbers, .inl (cI, 60, .inl sum_numbers)), (a_wiring, .inr (2, [.ref z_wiring_told, .ref a_wiring_rows, .ref a_wiring_back, .ref z_wiring_spareBack, .ref z_wiring_left, .int wiring_size, .int wiring_kind])), (a_wiring_rows, .inl (cI, 8, .inl wiring_rows)), (a_wiring_back, .inl (cI, 8, .inl wiring_back)), (a_picture, .inr (0, [.ref a_picture_flipsOf, .ref a_picture_termsAt, .ref a_picture_numbers, .ref a_picture_spread, .int picture_drawn, .int picture_held, .int picture_terms, .int picture_widest, .int picture_halvings, .int picture_foundSigns])), (a_picture_flipsOf, .inl (cI, 60, .inl picture_flipsOf)), (a_picture_termsAt, .inl (cI, 256, .inl picture_termsAt)), (a_picture_numbers, .inl (cJ, 256, .inr (.inl picture_numbers))), (a_picture_spread, .inl (cI, 256, .inl picture_spread))] sz)) 1 6 (va_A [(a_p0, .inr (3, [.ref a_sum, .ref a_wiring, .ref a_picture])), (a_sum, .inr (1, [.ref a_sum_keys, .ref a_sum_numbers, .ref z_sum_spareKeys, .ref z_sum_spareNumbers, .int sum_count])), (a_sum_keys, .inl (cI, 60, .inl sum_keys)), (a_sum_numbers, .inl (cI, 60, .inl sum_numbers)), (a_wiring, .inr (2, [.ref z_wiring_told, .ref a_wiring_rows, .ref a_wiring_back, .ref z_wiring_spareBack, .ref z_wiring_left, .int wiring_size, .int wiring_kind])), (a_wiring_rows, .inl (cI, 8, .inl wiring_rows)), (a_wiring_back, .inl (cI, 8, .inl wiring_back)), (a_picture, .inr (0, [.ref a_picture_flipsOf, .ref a_picture_termsAt, .ref a_picture_numbers, .ref a_picture_spread, .int picture_drawn, .int picture_held, .int picture_terms, .int picture_widest, .int picture_halvings, .int picture_foundSigns])), (a_picture_flipsOf, .inl (cI, 60, .inl picture_flipsOf)), (a_picture_termsAt, .inl (cI, 256, .inl picture_termsAt)), (a_picture_numbers, .inl (cJ, 256, .inr (.inl picture_numbers))), (a_picture_spread, .inl (cI, 256, .inl picture_spread))] sz) := by
  refine MetX.ofW (cc := prog_1_method_12_code) (maxL := 3) (ret := (some .long)) (by decide) rfl ?_
  intro p e s m args below meth c s₁ B hml hex hv
  obtain ⟨rfl, ⟨hsz, hP, hK, hD0, hNW⟩, hTZ⟩ := hv
  have htr : e.platform.stackTraces = false := Launch.traces_off hfl B.admits
  have hx := B.exec
  have hb := B.bytes
  have hr := B.returns
  have hts := atoms_spec (ws := Cond.code y_FM_image prog_1_method_12_code 3 (some .long) :: T0) B.pre
  have ht0 : ∀ w ∈ T0, w.before ([.ref a_p0, .int p1, .int p2] : List Value).toArray s = true := fun w h => hts w (List.mem_cons_of_mem _ h)
  have hown : s.vm.findClass "FermionMaps" = some m.cls := findClass_of_methodNamed B.named
  have hlocks := B.notSynchronized
  subst hsz
  have hP0 := hP
  have hD := hD0.self (sz := s.heap.size)
  generalize hAe : va_A [(a_p0, .inr (3, [.ref a_sum, .ref a_wiring, .ref a_picture])), (a_sum, .inr (1, [.ref a_sum_keys, .ref a_sum_numbers, .ref z_sum_spareKeys, .ref z_sum_spareNumbers, .int sum_count])), (a_sum_keys, .inl (cI, 60, .inl sum_keys)), (a_sum_numbers, .inl (cI, 60, .inl sum_numbers)), (a_wiring, .inr (2, [.ref z_wiring_told, .ref a_wiring_rows, .ref a_wiring_back, .ref z_wiring_spareBack, .ref z_wiring_left, .int wiring_size, .int wiring_kind])), (a_wiring_rows, .inl (cI, 8, .inl wiring_rows)), (a_wiring_back, .inl (cI, 8, .inl wiring_back)), (a_picture, .inr (0, [.ref a_picture_flipsOf, .ref a_picture_termsAt, .ref a_picture_numbers, .ref a_picture_spread, .int picture_drawn, .int picture_held, .int picture_terms, .int picture_widest, .int picture_halvings, .int picture_foundSigns])), (a_picture_flipsOf, .inl (cI, 60, .inl picture_flipsOf)), (a_picture_termsAt, .inl (cI, 256, .inl picture_termsAt)), (a_picture_numbers, .inl (cJ, 256, .inr (.inl picture_numbers))), (a_picture_spread, .inl (cI, 256, .inl picture_spread))] s.heap.size = A at hD ⊢
  have hA : ∀ q : Nat, s.heap.size ≤ q → A q := fun q h => by rw [← hAe]; exact Or.inr h
  have hS : va_S A s.heap s.heap [] := va_S.rf
  have hl := lv_entry ([.ref a_p0, .int p1, .int p2]) (n := 3) (Nat.le_of_ble_eq_true rfl)
  rw [lg_entry_eq]
  generalize (lg_sl ([.ref a_p0, .int p1, .int p2]) ++ List.replicate (3 - (lg_sl ([.ref a_p0, .int p1, .int p2])).length) Slot.unset).toArray = ls at hl ⊢
  have hl : lv_has ls 3 [(0, .ref a_p0), (1, .int p1), (2, .int p2)] := hl
  refine W.nameQ (fun Q hQ => ?_)
  rw [f_FM_image] at hf
  refine lv_aload_n hx hb d_FM_image_0 rfl (lv_at hl 0 rfl) ?_
  refine va_get (D := (dC, dI)) (ci := 3) (v := .ref a_picture) (C := "FermionMaps") (T := F_FM) (N := 3) hx hb ht0 i_FM hown hK hP 0 rfl rfl 2 (by decide) (ht0 _ m_133) (fun _ h9 => h9) rfl d_FM_image_1 ?_
  refine lv_aload_n hx hb d_FM_image_4 rfl (lv_at hl 0 rfl) ?_
  refine va_get (D := (dC, dI)) (ci := 3) (v := .ref a_sum) (C := "FermionMaps") (T := F_FM) (N := 3) hx hb ht0 i_FM hown hK hP 0 rfl rfl 0 (by decide) (ht0 _ m_131) (fun _ h9 => h9) rfl d_FM_image_5 ?_
  refine lv_aload_n hx hb d_FM_image_8 rfl (lv_at hl 0 rfl) ?_
  refine va_get (D := (dC, dI)) (ci := 3) (v := .ref a_wiring) (C := "FermionMaps") (T := F_FM) (N := 3) hx hb ht0 i_FM hown hK hP 0 rfl rfl 1 (by decide) (ht0 _ m_132) (fun _ h9 => h9) rfl d_FM_image_9 ?_
  obtain ⟨u_1, h_u_1, hf⟩ := bd hf
  refine wr_v (wr := [(a_p0, .inr (3, [.ref a_sum, .ref a_wiring, .ref a_picture]))]) (wrV_run (As := [.ref a_sum, .ref a_wiring]) (rest := []) ⟨hx, hb, hml, hown, ht0⟩ (c_Pi_draw l dC dI cI cJ a_picture a_picture_flipsOf a_picture_termsAt a_picture_numbers a_picture_spread a_sum a_sum_keys a_sum_numbers a_wiring a_wiring_rows a_wiring_back z_sum_spareKeys z_sum_spareNumbers z_wiring_told z_wiring_spareBack z_wiring_left s.heap.size picture_drawn picture_held picture_terms picture_widest picture_halvings picture_foundSigns picture_flipsOf picture_termsAt picture_numbers picture_spread sum_count sum_keys sum_numbers wiring_size wiring_kind wiring_rows wiring_back F u_1 h_u_1) (cwV 2 ht0 (gV m_261 m_262 m_263 m_4 m_264) rfl rfl rfl (by decide +kernel) ⟨Nat.le_of_ble_eq_true rfl, Nat.le_of_ble_eq_true rfl⟩) hK hNW hP hD [7, 8, 9, 10, 11, 1, 2, 3, 4, 5, 6] rfl rfl (by decide) (ci := 0) (q0 := 7) rfl rfl rfl hl.1 rfl (Nat.le_of_ble_eq_true rfl) d_FM_image_12 ⟨Nat.zero_le _, Nat.zero_le _⟩) hP hD hS hA [7, 8, 9, 10, 11, 1, 2, 3, 4, 5, 6] [0] rfl rfl (by decide) (by decide) (fun w1 H locs hw hP hD hS => ?_)
  obtain rfl := hw
  have hP : va_P (dC, dI) cls [(a_p0, .inr (3, [.ref a_sum, .ref a_wiring, .ref a_picture])), (a_sum, .inr (1, [.ref a_sum_keys, .ref a_sum_numbers, .ref z_sum_spareKeys, .ref z_sum_spareNumbers, .int sum_count])), (a_sum_keys, .inl (cI, 60, .inl sum_keys)), (a_sum_numbers, .inl (cI, 60, .inl sum_numbers)), (a_wiring, .inr (2, [.ref z_wiring_told, .ref a_wiring_rows, .ref a_wiring_back, .ref z_wiring_spareBack, .ref z_wiring_left, .int wiring_size, .int wiring_kind])), (a_wiring_rows, .inl (cI, 8, .inl wiring_rows)), (a_wiring_back, .inl (cI, 8, .inl wiring_back)), (a_picture, .inr (0, [.ref a_picture_flipsOf, .ref a_picture_termsAt, .ref a_picture_numbers, .ref a_picture_spread, .int u_1.1, .int u_1.2.1, .int u_1.2.2.1, .int u_1.2.2.2.1, .int u_1.2.2.2.2.1, .int picture_foundSigns])), (a_picture_flipsOf, .inl (cI, 60, .inl u_1.2.2.2.2.2.1)), (a_picture_termsAt, .inl (cI, 256, .inl u_1.2.2.2.2.2.2.1)), (a_picture_numbers, .inl (cJ, 256, .inr (.inl u_1.2.2.2.2.2.2.2.1))), (a_picture_spread, .inl (cI, 256, .inl u_1.2.2.2.2.2.2.2.2))] H := hP.sub [0, 6, 7, 8, 9, 10, 11, 1, 2, 3, 4, 5] rfl
  have hD : va_D A [(a_p0, .inr (3, [.ref a_sum, .ref a_wiring, .ref a_picture])), (a_sum, .inr (1, [.ref a_sum_keys, .ref a_sum_numbers, .ref z_sum_spareKeys, .ref z_sum_spareNumbers, .int sum_count])), (a_sum_keys, .inl (cI, 60, .inl sum_keys)), (a_sum_numbers, .inl (cI, 60, .inl sum_numbers)), (a_wiring, .inr (2, [.ref z_wiring_told, .ref a_wiring_rows, .ref a_wiring_back, .ref z_wiring_spareBack, .ref z_wiring_left, .int wiring_size, .int wiring_kind])), (a_wiring_rows, .inl (cI, 8, .inl wiring_rows)), (a_wiring_back, .inl (cI, 8, .inl wiring_back)), (a_picture, .inr (0, [.ref a_picture_flipsOf, .ref a_picture_termsAt, .ref a_picture_numbers, .ref a_picture_spread, .int u_1.1, .int u_1.2.1, .int u_1.2.2.1, .int u_1.2.2.2.1, .int u_1.2.2.2.2.1, .int picture_foundSigns])), (a_picture_flipsOf, .inl (cI, 60, .inl u_1.2.2.2.2.2.1)), (a_picture_termsAt, .inl (cI, 256, .inl u_1.2.2.2.2.2.2.1)), (a_picture_numbers, .inl (cJ, 256, .inr (.inl u_1.2.2.2.2.2.2.2.1))), (a_picture_spread, .inl (cI, 256, .inl u_1.2.2.2.2.2.2.2.2))] := hD.sub [0, 6, 7, 8, 9, 10, 11, 1, 2, 3, 4, 5] (by decide) rfl
  refine lv_iload_n hx hb d_FM_image_15 rfl (lv_at hl 1 rfl) ?_
  refine lv_iconst (v := (-1)) hx hb d_FM_image_16 (by decide) ?_
  refine lv_icmp_ne (tgt := 29) hx hb d_FM_image_17 (by decide) (fun c_2 => ?_) (fun c_2 => ?_)
  · replace hf := if_f c_2 hf
    refine lv_iload_n hx hb d_FM_image_29 rfl (lv_at hl 1 rfl) ?_
    refine lv_if_lt (tgt := 53) hx hb d_FM_image_30 (by decide) (fun c_3 => ?_) (fun c_3 => ?_)
    · replace hf := if_t c_3 hf
      have hu := Option.some.inj hf
      subst hu
      exact rx_t (ks := 110) (tx := "no such term") hQ rfl rfl hP hD hK hS hA hP0 hAe hF hTZ htr hx hb hown hex hml hl.1 hlocks (ht0 _ m_329) (ht0 _ m_330) (ht0 _ m_11) (by decide +kernel) d_FM_image_53 d_FM_image_56 d_FM_image_57 d_FM_image_59 d_FM_image_62 (Nat.le_of_ble_eq_true rfl) (Nat.le_of_ble_eq_true rfl) (Nat.le_of_ble_eq_true rfl) (Nat.le_of_ble_eq_true rfl)
    · replace hf := if_f c_3 hf
      refine lv_iload_n hx hb d_FM_image_33 rfl (lv_at hl 1 rfl) ?_
      refine lv_aload_n hx hb d_FM_image_34 rfl (lv_at hl 0 rfl) ?_
      refine va_get (D := (dC, dI)) (ci := 3) (v := .ref a_picture) (C := "FermionMaps") (T := F_FM) (N := 3) hx hb ht0 i_FM hown hK hP 0 rfl rfl 2 (by decide) (ht0 _ m_133) (fun _ h9 => h9) rfl d_FM_image_35 ?_
      refine va_get (D := (dC, dI)) (ci := 0) (v := .int u_1.2.2.1) (C := "FermionMaps$Picture") (T := F_Pi) (N := 10) hx hb ht0 i_Pi hown hK hP 7 rfl rfl 6 (by decide) (ht0 _ m_98) (fun _ h9 => h9) rfl d_FM_image_38 ?_
      refine lv_icmp_ge (tgt := 53) hx hb d_FM_image_41 (by decide) (fun c_4 => ?_) (fun c_4 => ?_)
      · replace hf := if_t c_4 hf
        have hu := Option.some.inj hf
        subst hu
        exact rx_t (ks := 110) (tx := "no such term") hQ rfl rfl hP hD hK hS hA hP0 hAe hF hTZ htr hx hb hown hex hml hl.1 hlocks (ht0 _ m_329) (ht0 _ m_330) (ht0 _ m_11) (by decide +kernel) d_FM_image_53 d_FM_image_56 d_FM_image_57 d_FM_image_59 d_FM_image_62 (Nat.le_of_ble_eq_true rfl) (Nat.le_of_ble_eq_true rfl) (Nat.le_of_ble_eq_true rfl) (Nat.le_of_ble_eq_true rfl)
      · replace hf := if_f c_4 hf
        refine lv_iload_n hx hb d_FM_image_44 rfl (lv_at hl 2 rfl) ?_
        refine lv_if_lt (tgt := 53) hx hb d_FM_image_45 (by decide) (fun c_5 => ?_) (fun c_5 => ?_)
        · replace hf := if_t c_5 hf
          have hu := Option.some.inj hf
          subst hu
          exact rx_t (ks := 110) (tx := "no such term") hQ rfl rfl hP hD hK hS hA hP0 hAe hF hTZ htr hx hb hown hex hml hl.1 hlocks (ht0 _ m_329) (ht0 _ m_330) (ht0 _ m_11) (by decide +kernel) d_FM_image_53 d_FM_image_56 d_FM_image_57 d_FM_image_59 d_FM_image_62 (Nat.le_of_ble_eq_true rfl) (Nat.le_of_ble_eq_true rfl) (Nat.le_of_ble_eq_true rfl) (Nat.le_of_ble_eq_true rfl)
        · replace hf := if_f c_5 hf
          refine lv_iload_n hx hb d_FM_image_48 rfl (lv_at hl 2 rfl) ?_
          refine lv_iconst (v := 3) hx hb d_FM_image_49 (by decide) ?_
          refine lv_icmp_le (tgt := 63) hx hb d_FM_image_50 (by decide) (fun c_6 => ?_) (fun c_6 => ?_)
          · replace hf := if_t c_6 hf
            refine lv_iload_n hx hb d_FM_image_63 rfl (lv_at hl 2 rfl) ?_
            refine lv_iconst (v := 3) hx hb d_FM_image_64 (by decide) ?_
            refine lv_icmp_ne (tgt := 77) hx hb d_FM_image_65 (by decide) (fun c_7 => ?_) (fun c_7 => ?_)
            · replace hf := if_f c_7 hf
              refine lv_aload_n hx hb d_FM_image_77 rfl (lv_at hl 0 rfl) ?_
              refine va_get (D := (dC, dI)) (ci := 3) (v := .ref a_picture) (C := "FermionMaps") (T := F_FM) (N := 3) hx hb ht0 i_FM hown hK hP 0 rfl rfl 2 (by decide) (ht0 _ m_133) (fun _ h9 => h9) rfl d_FM_image_78 ?_
              refine lv_iload_n hx hb d_FM_image_81 rfl (lv_at hl 1 rfl) ?_
              refine lv_aload_n hx hb d_FM_image_82 rfl (lv_at hl 0 rfl) ?_
              refine va_get (D := (dC, dI)) (ci := 3) (v := .ref a_sum) (C := "FermionMaps") (T := F_FM) (N := 3) hx hb ht0 i_FM hown hK hP 0 rfl rfl 0 (by decide) (ht0 _ m_131) (fun _ h9 => h9) rfl d_FM_image_83 ?_
              refine lv_aload_n hx hb d_FM_image_86 rfl (lv_at hl 0 rfl) ?_
              refine va_get (D := (dC, dI)) (ci := 3) (v := .ref a_wiring) (C := "FermionMaps") (T := F_FM) (N := 3) hx hb ht0 i_FM hown hK hP 0 rfl rfl 1 (by decide) (ht0 _ m_132) (fun _ h9 => h9) rfl d_FM_image_87 ?_
              obtain ⟨u_8, h_u_8, hf⟩ := bd hf
              refine wr_v (wr := [(a_p0, .inr (3, [.ref a_sum, .ref a_wiring, .ref a_picture])), (a_wiring_rows, .inl (cI, 8, .inl wiring_rows))]) (wrV_run (As := [.int p1, .ref a_sum, .ref a_wiring]) (rest := []) ⟨hx, hb, hml, hown, ht0⟩ (c_Pi_find l dC dI cI cJ a_picture a_picture_flipsOf a_picture_termsAt a_picture_numbers a_picture_spread a_sum a_sum_keys a_sum_numbers a_wiring a_wiring_back z_sum_spareKeys z_sum_spareNumbers z_wiring_told a_wiring_rows z_wiring_spareBack z_wiring_left H.size u_1.1 u_1.2.1 u_1.2.2.1 u_1.2.2.2.1 u_1.2.2.2.2.1 picture_foundSigns u_1.2.2.2.2.2.1 u_1.2.2.2.2.2.2.1 u_1.2.2.2.2.2.2.2.1 u_1.2.2.2.2.2.2.2.2 sum_count sum_keys sum_numbers wiring_size wiring_kind wiring_back p1 F u_8 h_u_8) (cwV 3 ht0 (gV m_419 m_420 m_421 m_4 m_422) rfl rfl rfl (by decide +kernel) ⟨Nat.le_of_ble_eq_true rfl, Nat.le_of_ble_eq_true rfl⟩) hK hNW hP hD [7, 8, 9, 10, 11, 1, 2, 3, 4, 6] rfl rfl (by decide) (ci := 0) (q0 := 7) rfl rfl rfl hl.1 rfl (Nat.le_of_ble_eq_true rfl) d_FM_image_90 ⟨Nat.zero_le _, Nat.zero_le _⟩) hP hD hS hA [7, 8, 9, 10, 11, 1, 2, 3, 4, 6] [0, 5] rfl rfl (by decide) (by decide) (fun w1 H locs hw hP hD hS => ?_)
              obtain rfl := hw
              have hP : va_P (dC, dI) cls [(a_p0, .inr (3, [.ref a_sum, .ref a_wiring, .ref a_picture])), (a_sum, .inr (1, [.ref a_sum_keys, .ref a_sum_numbers, .ref z_sum_spareKeys, .ref z_sum_spareNumbers, .int sum_count])), (a_sum_keys, .inl (cI, 60, .inl sum_keys)), (a_sum_numbers, .inl (cI, 60, .inl sum_numbers)), (a_wiring, .inr (2, [.ref z_wiring_told, .ref a_wiring_rows, .ref a_wiring_back, .ref z_wiring_spareBack, .ref z_wiring_left, .int wiring_size, .int wiring_kind])), (a_wiring_rows, .inl (cI, 8, .inl wiring_rows)), (a_wiring_back, .inl (cI, 8, .inl wiring_back)), (a_picture, .inr (0, [.ref a_picture_flipsOf, .ref a_picture_termsAt, .ref a_picture_numbers, .ref a_picture_spread, .int u_1.1, .int u_8.1, .int u_1.2.2.1, .int u_1.2.2.2.1, .int u_1.2.2.2.2.1, .int u_8.2.1])), (a_picture_flipsOf, .inl (cI, 60, .inl u_1.2.2.2.2.2.1)), (a_picture_termsAt, .inl (cI, 256, .inl u_1.2.2.2.2.2.2.1)), (a_picture_numbers, .inl (cJ, 256, .inr (.inl u_8.2.2.1))), (a_picture_spread, .inl (cI, 256, .inl u_8.2.2.2))] H := hP.sub [0, 7, 8, 9, 10, 1, 11, 2, 3, 4, 5, 6] rfl
              have hD : va_D A [(a_p0, .inr (3, [.ref a_sum, .ref a_wiring, .ref a_picture])), (a_sum, .inr (1, [.ref a_sum_keys, .ref a_sum_numbers, .ref z_sum_spareKeys, .ref z_sum_spareNumbers, .int sum_count])), (a_sum_keys, .inl (cI, 60, .inl sum_keys)), (a_sum_numbers, .inl (cI, 60, .inl sum_numbers)), (a_wiring, .inr (2, [.ref z_wiring_told, .ref a_wiring_rows, .ref a_wiring_back, .ref z_wiring_spareBack, .ref z_wiring_left, .int wiring_size, .int wiring_kind])), (a_wiring_rows, .inl (cI, 8, .inl wiring_rows)), (a_wiring_back, .inl (cI, 8, .inl wiring_back)), (a_picture, .inr (0, [.ref a_picture_flipsOf, .ref a_picture_termsAt, .ref a_picture_numbers, .ref a_picture_spread, .int u_1.1, .int u_8.1, .int u_1.2.2.1, .int u_1.2.2.2.1, .int u_1.2.2.2.2.1, .int u_8.2.1])), (a_picture_flipsOf, .inl (cI, 60, .inl u_1.2.2.2.2.2.1)), (a_picture_termsAt, .inl (cI, 256, .inl u_1.2.2.2.2.2.2.1)), (a_picture_numbers, .inl (cJ, 256, .inr (.inl u_8.2.2.1))), (a_picture_spread, .inl (cI, 256, .inl u_8.2.2.2))] := hD.sub [0, 7, 8, 9, 10, 1, 11, 2, 3, 4, 5, 6] (by decide) rfl
              refine lv_iload_n hx hb d_FM_image_93 rfl (lv_at hl 2 rfl) ?_
              refine lv_if_ne (tgt := 106) hx hb d_FM_image_94 (by decide) (fun c_9 => ?_) (fun c_9 => ?_)
              · replace hf := if_f c_9 hf
                refine lv_iload_n hx hb d_FM_image_106 rfl (lv_at hl 2 rfl) ?_
                refine lv_iconst (v := 1) hx hb d_FM_image_107 (by decide) ?_
                refine lv_icmp_ne (tgt := 122) hx hb d_FM_image_108 (by decide) (fun c_10 => ?_) (fun c_10 => ?_)
                · replace hf := if_f c_10 hf
                  refine lv_aload_n hx hb d_FM_image_122 rfl (lv_at hl 0 rfl) ?_
                  refine va_get (D := (dC, dI)) (ci := 3) (v := .ref a_picture) (C := "FermionMaps") (T := F_FM) (N := 3) hx hb ht0 i_FM hown hK hP 0 rfl rfl 2 (by decide) (ht0 _ m_133) (fun _ h9 => h9) rfl d_FM_image_123 ?_
                  refine lv_aload_n hx hb d_FM_image_126 rfl (lv_at hl 0 rfl) ?_
                  refine va_get (D := (dC, dI)) (ci := 3) (v := .ref a_wiring) (C := "FermionMaps") (T := F_FM) (N := 3) hx hb ht0 i_FM hown hK hP 0 rfl rfl 1 (by decide) (ht0 _ m_132) (fun _ h9 => h9) rfl d_FM_image_127 ?_
                  refine va_get (D := (dC, dI)) (ci := 2) (v := .int wiring_size) (C := "FermionMaps$Wiring") (T := F_Wi) (N := 7) hx hb ht0 i_Wi hown hK hP 4 rfl rfl 5 (by decide) (ht0 _ m_65) (fun _ h9 => h9) rfl d_FM_image_130 ?_
                  obtain ⟨u_11, h_u_11, hf⟩ := bd hf
                  refine rd_l (rdV_run (As := [.int wiring_size]) (rest := []) ⟨hx, hb, hml, hown, ht0⟩ (c_Pi_foundNumber l dC dI cI cJ a_picture a_picture_numbers a_picture_flipsOf a_picture_termsAt a_picture_spread u_1.1 u_8.1 u_1.2.2.1 u_1.2.2.2.1 u_1.2.2.2.2.1 u_8.2.1 u_8.2.2.1 wiring_size F u_11 h_u_11) (cwV 1 ht0 (gV m_423 m_424 m_425 m_4 m_426) rfl rfl rfl (by decide +kernel) ⟨Nat.le_of_ble_eq_true rfl, Nat.le_of_ble_eq_true rfl⟩) hK hNW hP [7, 10] rfl (ci := 0) (q0 := 7) rfl rfl rfl hl.1 rfl (Nat.le_of_ble_eq_true rfl) d_FM_image_133 ⟨Nat.zero_le _, Nat.zero_le _⟩) ?_
                  have hu := Option.some.inj hf
                  subst hu
                  exact rx_l hQ rfl rfl hP hD hK hS hx hb hr hlocks d_FM_image_136 (Nat.zero_le _) (Nat.zero_le _)
                · replace hf := if_t c_10 hf
                  refine lv_aload_n hx hb d_FM_image_111 rfl (lv_at hl 0 rfl) ?_
                  refine va_get (D := (dC, dI)) (ci := 3) (v := .ref a_picture) (C := "FermionMaps") (T := F_FM) (N := 3) hx hb ht0 i_FM hown hK hP 0 rfl rfl 2 (by decide) (ht0 _ m_133) (fun _ h9 => h9) rfl d_FM_image_112 ?_
                  refine va_get (D := (dC, dI)) (ci := 0) (v := .int u_8.2.1) (C := "FermionMaps$Picture") (T := F_Pi) (N := 10) hx hb ht0 i_Pi hown hK hP 7 rfl rfl 9 (by decide) (ht0 _ m_104) (fun _ h9 => h9) rfl d_FM_image_115 ?_
                  refine lv_i2l (v := u_8.2.1.toInt64) hx hb d_FM_image_118 rfl ?_
                  refine lv_goto (tgt := 136) hx hb d_FM_image_119 (by decide) ?_
                  have hu := Option.some.inj hf
                  subst hu
                  exact rx_l hQ rfl rfl hP hD hK hS hx hb hr hlocks d_FM_image_136 (Nat.zero_le _) (Nat.zero_le _)
              · replace hf := if_t c_9 hf
                refine lv_aload_n hx hb d_FM_image_97 rfl (lv_at hl 0 rfl) ?_
                refine va_get (D := (dC, dI)) (ci := 3) (v := .ref a_picture) (C := "FermionMaps") (T := F_FM) (N := 3) hx hb ht0 i_FM hown hK hP 0 rfl rfl 2 (by decide) (ht0 _ m_133) (fun _ h9 => h9) rfl d_FM_image_98 ?_
                refine va_get (D := (dC, dI)) (ci := 0) (v := .int u_8.1) (C := "FermionMaps$Picture") (T := F_Pi) (N := 10) hx hb ht0 i_Pi hown hK hP 7 rfl rfl 5 (by decide) (ht0 _ m_96) (fun _ h9 => h9) rfl d_FM_image_101 ?_
                refine lv_i2l (v := u_8.1.toInt64) hx hb d_FM_image_104 rfl ?_
                have hu := Option.some.inj hf
                subst hu
                exact rx_l hQ rfl rfl hP hD hK hS hx hb hr hlocks d_FM_image_105 (Nat.zero_le _) (Nat.zero_le _)
            · replace hf := if_t c_7 hf
              refine lv_aload_n hx hb d_FM_image_68 rfl (lv_at hl 0 rfl) ?_
              refine va_get (D := (dC, dI)) (ci := 3) (v := .ref a_picture) (C := "FermionMaps") (T := F_FM) (N := 3) hx hb ht0 i_FM hown hK hP 0 rfl rfl 2 (by decide) (ht0 _ m_133) (fun _ h9 => h9) rfl d_FM_image_69 ?_
              refine va_get (D := (dC, dI)) (ci := 0) (v := .int u_1.2.2.2.2.1) (C := "FermionMaps$Picture") (T := F_Pi) (N := 10) hx hb ht0 i_Pi hown hK hP 7 rfl rfl 8 (by decide) (ht0 _ m_102) (fun _ h9 => h9) rfl d_FM_image_72 ?_
              refine lv_i2l (v := u_1.2.2.2.2.1.toInt64) hx hb d_FM_image_75 rfl ?_
              have hu := Option.some.inj hf
              subst hu
              exact rx_l hQ rfl rfl hP hD hK hS hx hb hr hlocks d_FM_image_76 (Nat.zero_le _) (Nat.zero_le _)
          · replace hf := if_f c_6 hf
            have hu := Option.some.inj hf
            subst hu
            exact rx_t (ks := 110) (tx := "no such term") hQ rfl rfl hP hD hK hS hA hP0 hAe hF hTZ htr hx hb hown hex hml hl.1 hlocks (ht0 _ m_329) (ht0 _ m_330) (ht0 _ m_11) (by decide +kernel) d_FM_image_53 d_FM_image_56 d_FM_image_57 d_FM_image_59 d_FM_image_62 (Nat.le_of_ble_eq_true rfl) (Nat.le_of_ble_eq_true rfl) (Nat.le_of_ble_eq_true rfl) (Nat.le_of_ble_eq_true rfl)
  · replace hf := if_t c_2 hf
    refine lv_aload_n hx hb d_FM_image_20 rfl (lv_at hl 0 rfl) ?_
    refine va_get (D := (dC, dI)) (ci := 3) (v := .ref a_picture) (C := "FermionMaps") (T := F_FM) (N := 3) hx hb ht0 i_FM hown hK hP 0 rfl rfl 2 (by decide) (ht0 _ m_133) (fun _ h9 => h9) rfl d_FM_image_21 ?_
    refine va_get (D := (dC, dI)) (ci := 0) (v := .int u_1.2.2.1) (C := "FermionMaps$Picture") (T := F_Pi) (N := 10) hx hb ht0 i_Pi hown hK hP 7 rfl rfl 6 (by decide) (ht0 _ m_98) (fun _ h9 => h9) rfl d_FM_image_24 ?_
    refine lv_i2l (v := u_1.2.2.1.toInt64) hx hb d_FM_image_27 rfl ?_
    have hu := Option.some.inj hf
    subst hu
    exact rx_l hQ rfl rfl hP hD hK hS hx hb hr hlocks d_FM_image_28 (Nat.zero_le _) (Nat.zero_le _)
