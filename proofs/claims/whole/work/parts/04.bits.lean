theorem d_In_bitCount_0 : decode prog_8_method_49_code 0 = .ok (.iload_n 0, 1) := by decide +kernel
theorem d_In_bitCount_1 : decode prog_8_method_49_code 1 = .ok (.iload_n 0, 1) := by decide +kernel
theorem d_In_bitCount_2 : decode prog_8_method_49_code 2 = .ok (.iconst 1, 1) := by decide +kernel
theorem d_In_bitCount_3 : decode prog_8_method_49_code 3 = .ok (.iushr, 1) := by decide +kernel
theorem d_In_bitCount_4 : decode prog_8_method_49_code 4 = .ok (.ldc_w 265, 3) := by decide +kernel
theorem d_In_bitCount_7 : decode prog_8_method_49_code 7 = .ok (.iand, 1) := by decide +kernel
theorem d_In_bitCount_8 : decode prog_8_method_49_code 8 = .ok (.isub, 1) := by decide +kernel
theorem d_In_bitCount_9 : decode prog_8_method_49_code 9 = .ok (.istore_n 0, 1) := by decide +kernel
theorem d_In_bitCount_10 : decode prog_8_method_49_code 10 = .ok (.iload_n 0, 1) := by decide +kernel
theorem d_In_bitCount_11 : decode prog_8_method_49_code 11 = .ok (.ldc_w 266, 3) := by decide +kernel
theorem d_In_bitCount_14 : decode prog_8_method_49_code 14 = .ok (.iand, 1) := by decide +kernel
theorem d_In_bitCount_15 : decode prog_8_method_49_code 15 = .ok (.iload_n 0, 1) := by decide +kernel
theorem d_In_bitCount_16 : decode prog_8_method_49_code 16 = .ok (.iconst 2, 1) := by decide +kernel
theorem d_In_bitCount_17 : decode prog_8_method_49_code 17 = .ok (.iushr, 1) := by decide +kernel
theorem d_In_bitCount_18 : decode prog_8_method_49_code 18 = .ok (.ldc_w 266, 3) := by decide +kernel
theorem d_In_bitCount_21 : decode prog_8_method_49_code 21 = .ok (.iand, 1) := by decide +kernel
theorem d_In_bitCount_22 : decode prog_8_method_49_code 22 = .ok (.iadd, 1) := by decide +kernel
theorem d_In_bitCount_23 : decode prog_8_method_49_code 23 = .ok (.istore_n 0, 1) := by decide +kernel
theorem d_In_bitCount_24 : decode prog_8_method_49_code 24 = .ok (.iload_n 0, 1) := by decide +kernel
theorem d_In_bitCount_25 : decode prog_8_method_49_code 25 = .ok (.iload_n 0, 1) := by decide +kernel
theorem d_In_bitCount_26 : decode prog_8_method_49_code 26 = .ok (.iconst 4, 1) := by decide +kernel
theorem d_In_bitCount_27 : decode prog_8_method_49_code 27 = .ok (.iushr, 1) := by decide +kernel
theorem d_In_bitCount_28 : decode prog_8_method_49_code 28 = .ok (.iadd, 1) := by decide +kernel
theorem d_In_bitCount_29 : decode prog_8_method_49_code 29 = .ok (.ldc_w 267, 3) := by decide +kernel
theorem d_In_bitCount_32 : decode prog_8_method_49_code 32 = .ok (.iand, 1) := by decide +kernel
theorem d_In_bitCount_33 : decode prog_8_method_49_code 33 = .ok (.istore_n 0, 1) := by decide +kernel
theorem d_In_bitCount_34 : decode prog_8_method_49_code 34 = .ok (.iload_n 0, 1) := by decide +kernel
theorem d_In_bitCount_35 : decode prog_8_method_49_code 35 = .ok (.iload_n 0, 1) := by decide +kernel
theorem d_In_bitCount_36 : decode prog_8_method_49_code 36 = .ok (.bipush 8, 2) := by decide +kernel
theorem d_In_bitCount_38 : decode prog_8_method_49_code 38 = .ok (.iushr, 1) := by decide +kernel
theorem d_In_bitCount_39 : decode prog_8_method_49_code 39 = .ok (.iadd, 1) := by decide +kernel
theorem d_In_bitCount_40 : decode prog_8_method_49_code 40 = .ok (.istore_n 0, 1) := by decide +kernel
theorem d_In_bitCount_41 : decode prog_8_method_49_code 41 = .ok (.iload_n 0, 1) := by decide +kernel
theorem d_In_bitCount_42 : decode prog_8_method_49_code 42 = .ok (.iload_n 0, 1) := by decide +kernel
theorem d_In_bitCount_43 : decode prog_8_method_49_code 43 = .ok (.bipush 16, 2) := by decide +kernel
theorem d_In_bitCount_45 : decode prog_8_method_49_code 45 = .ok (.iushr, 1) := by decide +kernel
theorem d_In_bitCount_46 : decode prog_8_method_49_code 46 = .ok (.iadd, 1) := by decide +kernel
theorem d_In_bitCount_47 : decode prog_8_method_49_code 47 = .ok (.istore_n 0, 1) := by decide +kernel
theorem d_In_bitCount_48 : decode prog_8_method_49_code 48 = .ok (.iload_n 0, 1) := by decide +kernel
theorem d_In_bitCount_49 : decode prog_8_method_49_code 49 = .ok (.bipush 63, 2) := by decide +kernel
theorem d_In_bitCount_51 : decode prog_8_method_49_code 51 = .ok (.iand, 1) := by decide +kernel
theorem d_In_bitCount_52 : decode prog_8_method_49_code 52 = .ok (.ireturn, 1) := by decide +kernel
theorem d_FM_isOdd_0 : decode prog_1_method_17_code 0 = .ok (.iload_n 0, 1) := by decide +kernel
theorem d_FM_isOdd_1 : decode prog_1_method_17_code 1 = .ok (.invokestatic 138, 3) := by decide +kernel
theorem d_FM_isOdd_4 : decode prog_1_method_17_code 4 = .ok (.iconst 1, 1) := by decide +kernel
theorem d_FM_isOdd_5 : decode prog_1_method_17_code 5 = .ok (.iand, 1) := by decide +kernel
theorem d_FM_isOdd_6 : decode prog_1_method_17_code 6 = .ok (.ifCond .eq 7, 3) := by decide +kernel
theorem d_FM_isOdd_9 : decode prog_1_method_17_code 9 = .ok (.iconst 1, 1) := by decide +kernel
theorem d_FM_isOdd_10 : decode prog_1_method_17_code 10 = .ok (.goto 4, 3) := by decide +kernel
theorem d_FM_isOdd_13 : decode prog_1_method_17_code 13 = .ok (.iconst 0, 1) := by decide +kernel
theorem d_FM_isOdd_14 : decode prog_1_method_17_code 14 = .ok (.ireturn, 1) := by decide +kernel
theorem d_FM_has_0 : decode prog_1_method_16_code 0 = .ok (.iload_n 0, 1) := by decide +kernel
theorem d_FM_has_1 : decode prog_1_method_16_code 1 = .ok (.iload_n 1, 1) := by decide +kernel
theorem d_FM_has_2 : decode prog_1_method_16_code 2 = .ok (.ishr, 1) := by decide +kernel
theorem d_FM_has_3 : decode prog_1_method_16_code 3 = .ok (.iconst 1, 1) := by decide +kernel
theorem d_FM_has_4 : decode prog_1_method_16_code 4 = .ok (.iand, 1) := by decide +kernel
theorem d_FM_has_5 : decode prog_1_method_16_code 5 = .ok (.ifCond .eq 7, 3) := by decide +kernel
theorem d_FM_has_8 : decode prog_1_method_16_code 8 = .ok (.iconst 1, 1) := by decide +kernel
theorem d_FM_has_9 : decode prog_1_method_16_code 9 = .ok (.goto 4, 3) := by decide +kernel
theorem d_FM_has_12 : decode prog_1_method_16_code 12 = .ok (.iconst 0, 1) := by decide +kernel
theorem d_FM_has_13 : decode prog_1_method_16_code 13 = .ok (.ireturn, 1) := by decide +kernel
theorem d_FM_oddBelow_0 : decode prog_1_method_18_code 0 = .ok (.iload_n 0, 1) := by decide +kernel
theorem d_FM_oddBelow_1 : decode prog_1_method_18_code 1 = .ok (.iconst 1, 1) := by decide +kernel
theorem d_FM_oddBelow_2 : decode prog_1_method_18_code 2 = .ok (.ishr, 1) := by decide +kernel
theorem d_FM_oddBelow_3 : decode prog_1_method_18_code 3 = .ok (.istore_n 1, 1) := by decide +kernel
theorem d_FM_oddBelow_4 : decode prog_1_method_18_code 4 = .ok (.iload_n 1, 1) := by decide +kernel
theorem d_FM_oddBelow_5 : decode prog_1_method_18_code 5 = .ok (.iload_n 1, 1) := by decide +kernel
theorem d_FM_oddBelow_6 : decode prog_1_method_18_code 6 = .ok (.iconst 1, 1) := by decide +kernel
theorem d_FM_oddBelow_7 : decode prog_1_method_18_code 7 = .ok (.ishr, 1) := by decide +kernel
theorem d_FM_oddBelow_8 : decode prog_1_method_18_code 8 = .ok (.ixor, 1) := by decide +kernel
theorem d_FM_oddBelow_9 : decode prog_1_method_18_code 9 = .ok (.istore_n 1, 1) := by decide +kernel
theorem d_FM_oddBelow_10 : decode prog_1_method_18_code 10 = .ok (.iload_n 1, 1) := by decide +kernel
theorem d_FM_oddBelow_11 : decode prog_1_method_18_code 11 = .ok (.iload_n 1, 1) := by decide +kernel
theorem d_FM_oddBelow_12 : decode prog_1_method_18_code 12 = .ok (.iconst 2, 1) := by decide +kernel
theorem d_FM_oddBelow_13 : decode prog_1_method_18_code 13 = .ok (.ishr, 1) := by decide +kernel
theorem d_FM_oddBelow_14 : decode prog_1_method_18_code 14 = .ok (.ixor, 1) := by decide +kernel
theorem d_FM_oddBelow_15 : decode prog_1_method_18_code 15 = .ok (.istore_n 1, 1) := by decide +kernel
theorem d_FM_oddBelow_16 : decode prog_1_method_18_code 16 = .ok (.iload_n 1, 1) := by decide +kernel
theorem d_FM_oddBelow_17 : decode prog_1_method_18_code 17 = .ok (.iload_n 1, 1) := by decide +kernel
theorem d_FM_oddBelow_18 : decode prog_1_method_18_code 18 = .ok (.iconst 4, 1) := by decide +kernel
theorem d_FM_oddBelow_19 : decode prog_1_method_18_code 19 = .ok (.ishr, 1) := by decide +kernel
theorem d_FM_oddBelow_20 : decode prog_1_method_18_code 20 = .ok (.ixor, 1) := by decide +kernel
theorem d_FM_oddBelow_21 : decode prog_1_method_18_code 21 = .ok (.istore_n 1, 1) := by decide +kernel
theorem d_FM_oddBelow_22 : decode prog_1_method_18_code 22 = .ok (.iload_n 1, 1) := by decide +kernel
theorem d_FM_oddBelow_23 : decode prog_1_method_18_code 23 = .ok (.ireturn, 1) := by decide +kernel
theorem d_FM_turnsAlways_0 : decode prog_1_method_19_code 0 = .ok (.iload_n 1, 1) := by decide +kernel
theorem d_FM_turnsAlways_1 : decode prog_1_method_19_code 1 = .ok (.iload_n 0, 1) := by decide +kernel
theorem d_FM_turnsAlways_2 : decode prog_1_method_19_code 2 = .ok (.invokestatic 143, 3) := by decide +kernel
theorem d_FM_turnsAlways_5 : decode prog_1_method_19_code 5 = .ok (.iand, 1) := by decide +kernel
theorem d_FM_turnsAlways_6 : decode prog_1_method_19_code 6 = .ok (.invokestatic 146, 3) := by decide +kernel
theorem d_FM_turnsAlways_9 : decode prog_1_method_19_code 9 = .ok (.ireturn, 1) := by decide +kernel
theorem d_FM_isBeyond_0 : decode prog_1_method_15_code 0 = .ok (.iload_n 0, 1) := by decide +kernel
theorem d_FM_isBeyond_1 : decode prog_1_method_15_code 1 = .ok (.ldc 136, 2) := by decide +kernel
theorem d_FM_isBeyond_3 : decode prog_1_method_15_code 3 = .ok (.if_icmp .lt 9, 3) := by decide +kernel
theorem d_FM_isBeyond_6 : decode prog_1_method_15_code 6 = .ok (.iload_n 0, 1) := by decide +kernel
theorem d_FM_isBeyond_7 : decode prog_1_method_15_code 7 = .ok (.ldc 137, 2) := by decide +kernel
theorem d_FM_isBeyond_9 : decode prog_1_method_15_code 9 = .ok (.if_icmp .le 7, 3) := by decide +kernel
theorem d_FM_isBeyond_12 : decode prog_1_method_15_code 12 = .ok (.iconst 1, 1) := by decide +kernel
theorem d_FM_isBeyond_13 : decode prog_1_method_15_code 13 = .ok (.goto 4, 3) := by decide +kernel
theorem d_FM_isBeyond_16 : decode prog_1_method_15_code 16 = .ok (.iconst 0, 1) := by decide +kernel
theorem d_FM_isBeyond_17 : decode prog_1_method_15_code 17 = .ok (.ireturn, 1) := by decide +kernel
/-! java/lang/Integer.bitCount(I)I -/
def f_In_bitCount (F : Nat) (p0 : Int32) : Option (Int32) :=
  nm ((p0 - (((p0.toUInt32 >>> ((1 : Int32).toUInt32 &&& Int32.toUInt32 31)).toInt32) &&& 1431655765)) : Int32) fun x0_1 =>
  nm (((x0_1 &&& 858993459) + (((x0_1.toUInt32 >>> ((2 : Int32).toUInt32 &&& Int32.toUInt32 31)).toInt32) &&& 858993459)) : Int32) fun x0_2 =>
  nm (((x0_2 + ((x0_2.toUInt32 >>> ((4 : Int32).toUInt32 &&& Int32.toUInt32 31)).toInt32)) &&& 252645135) : Int32) fun x0_3 =>
  nm ((x0_3 + ((x0_3.toUInt32 >>> ((8 : Int32).toUInt32 &&& Int32.toUInt32 31)).toInt32)) : Int32) fun x0_4 =>
  nm ((x0_4 + ((x0_4.toUInt32 >>> ((16 : Int32).toUInt32 &&& Int32.toUInt32 31)).toInt32)) : Int32) fun x0_5 =>
  some ((x0_5 &&& 63))
abbrev rm_In_bitCount : Room := { frames := 0, cells := 0, slots := 0, locals := 0 }
set_option maxHeartbeats 4000000 in
set_option maxRecDepth 100000 in
theorem c_In_bitCount (l : Launch) (dC : Nat → ClassId) (dI : Nat → Nat → Nat) (cI cJ : ClassId) (p0 : Int32) (F : Nat) (u : Int32) (hf : f_In_bitCount F p0 = some u) : Met l y_In_bitCount (Cond.code y_In_bitCount prog_8_method_49_code 1 (some .int) :: T0) rm_In_bitCount (va_Pc [.int p0] (Wr (dC, dI) [] [(cI, .int), (cJ, .long)])) (vp_Si (fun r => r = u)) 0 0 (fun _ => False) := by
  refine Met.ofW (cc := prog_8_method_49_code) (maxL := 1) (ret := (some .int)) (by decide) rfl ?_
  intro p e s m args below meth c s₁ B hml hv
  obtain ⟨rfl, hP, hK, hNW⟩ := hv
  have hx := B.exec
  have hb := B.bytes
  have hr := B.returns
  have hts := atoms_spec (ws := Cond.code y_In_bitCount prog_8_method_49_code 1 (some .int) :: T0) B.pre
  have ht0 : ∀ w ∈ T0, w.before ([.int p0] : List Value).toArray s = true := fun w h => hts w (List.mem_cons_of_mem _ h)
  have hown : s.vm.findClass "java/lang/Integer" = some m.cls := findClass_of_methodNamed B.named
  have hlocks := B.notSynchronized
  have hl := lv_entry ([.int p0]) (n := 1) (Nat.le_of_ble_eq_true rfl)
  rw [lg_entry_eq]
  generalize (lg_sl ([.int p0]) ++ List.replicate (1 - (lg_sl ([.int p0])).length) Slot.unset).toArray = ls at hl ⊢
  have hl : lv_has ls 1 [(0, .int p0)] := hl
  refine W.nameQ (fun Q hQ => ?_)
  rw [f_In_bitCount] at hf
  refine lv_iload_n hx hb d_In_bitCount_0 rfl (lv_at hl 0 rfl) ?_
  refine lv_iload_n hx hb d_In_bitCount_1 rfl (lv_at hl 0 rfl) ?_
  refine lv_iconst (v := 1) hx hb d_In_bitCount_2 (by decide) ?_
  refine lv_iushr (v := (p0.toUInt32 >>> ((1 : Int32).toUInt32 &&& Int32.toUInt32 31)).toInt32) hx hb d_In_bitCount_3 rfl ?_
  refine lv_ldcw hx hb hown (ht0 _ m_205) d_In_bitCount_4 ?_
  refine lv_iand hx hb d_In_bitCount_7 ?_
  refine lv_isub hx hb d_In_bitCount_8 ?_
  refine lv_topi (fun x0_1 e_x0_1 => ?_)
  replace hf := nm_eq e_x0_1 hf
  refine lv_istore_n (lv' := [(0, .int x0_1)]) hx hb d_In_bitCount_9 rfl hl (by decide) rfl (fun ls hl => ?_)
  refine lv_iload_n hx hb d_In_bitCount_10 rfl (lv_at hl 0 rfl) ?_
  refine lv_ldcw hx hb hown (ht0 _ m_206) d_In_bitCount_11 ?_
  refine lv_iand hx hb d_In_bitCount_14 ?_
  refine lv_iload_n hx hb d_In_bitCount_15 rfl (lv_at hl 0 rfl) ?_
  refine lv_iconst (v := 2) hx hb d_In_bitCount_16 (by decide) ?_
  refine lv_iushr (v := (x0_1.toUInt32 >>> ((2 : Int32).toUInt32 &&& Int32.toUInt32 31)).toInt32) hx hb d_In_bitCount_17 rfl ?_
  refine lv_ldcw hx hb hown (ht0 _ m_206) d_In_bitCount_18 ?_
  refine lv_iand hx hb d_In_bitCount_21 ?_
  refine lv_iadd hx hb d_In_bitCount_22 ?_
  refine lv_topi (fun x0_2 e_x0_2 => ?_)
  replace hf := nm_eq e_x0_2 hf
  refine lv_istore_n (lv' := [(0, .int x0_2)]) hx hb d_In_bitCount_23 rfl hl (by decide) rfl (fun ls hl => ?_)
  refine lv_iload_n hx hb d_In_bitCount_24 rfl (lv_at hl 0 rfl) ?_
  refine lv_iload_n hx hb d_In_bitCount_25 rfl (lv_at hl 0 rfl) ?_
  refine lv_iconst (v := 4) hx hb d_In_bitCount_26 (by decide) ?_
  refine lv_iushr (v := (x0_2.toUInt32 >>> ((4 : Int32).toUInt32 &&& Int32.toUInt32 31)).toInt32) hx hb d_In_bitCount_27 rfl ?_
  refine lv_iadd hx hb d_In_bitCount_28 ?_
  refine lv_ldcw hx hb hown (ht0 _ m_207) d_In_bitCount_29 ?_
  refine lv_iand hx hb d_In_bitCount_32 ?_
  refine lv_topi (fun x0_3 e_x0_3 => ?_)
  replace hf := nm_eq e_x0_3 hf
  refine lv_istore_n (lv' := [(0, .int x0_3)]) hx hb d_In_bitCount_33 rfl hl (by decide) rfl (fun ls hl => ?_)
  refine lv_iload_n hx hb d_In_bitCount_34 rfl (lv_at hl 0 rfl) ?_
  refine lv_iload_n hx hb d_In_bitCount_35 rfl (lv_at hl 0 rfl) ?_
  refine lv_bipush (v := 8) hx hb d_In_bitCount_36 (by decide) ?_
  refine lv_iushr (v := (x0_3.toUInt32 >>> ((8 : Int32).toUInt32 &&& Int32.toUInt32 31)).toInt32) hx hb d_In_bitCount_38 rfl ?_
  refine lv_iadd hx hb d_In_bitCount_39 ?_
  refine lv_topi (fun x0_4 e_x0_4 => ?_)
  replace hf := nm_eq e_x0_4 hf
  refine lv_istore_n (lv' := [(0, .int x0_4)]) hx hb d_In_bitCount_40 rfl hl (by decide) rfl (fun ls hl => ?_)
  refine lv_iload_n hx hb d_In_bitCount_41 rfl (lv_at hl 0 rfl) ?_
  refine lv_iload_n hx hb d_In_bitCount_42 rfl (lv_at hl 0 rfl) ?_
  refine lv_bipush (v := 16) hx hb d_In_bitCount_43 (by decide) ?_
  refine lv_iushr (v := (x0_4.toUInt32 >>> ((16 : Int32).toUInt32 &&& Int32.toUInt32 31)).toInt32) hx hb d_In_bitCount_45 rfl ?_
  refine lv_iadd hx hb d_In_bitCount_46 ?_
  refine lv_topi (fun x0_5 e_x0_5 => ?_)
  replace hf := nm_eq e_x0_5 hf
  refine lv_istore_n (lv' := [(0, .int x0_5)]) hx hb d_In_bitCount_47 rfl hl (by decide) rfl (fun ls hl => ?_)
  refine lv_iload_n hx hb d_In_bitCount_48 rfl (lv_at hl 0 rfl) ?_
  refine lv_bipush (v := 63) hx hb d_In_bitCount_49 (by decide) ?_
  refine lv_iand hx hb d_In_bitCount_51 ?_
  have hu := Option.some.inj hf
  subst hu
  exact rt_i hQ rfl hx hb hr hlocks d_In_bitCount_52

/-! FermionMaps.isOdd(I)Z -/
def f_FM_isOdd (F : Nat) (p0 : Int32) : Option (Int32) :=
  (f_In_bitCount F p0).bind fun u_1 =>
  if (u_1 &&& 1) = 0 then
    some (0)
  else
    some (1)
abbrev rm_FM_isOdd : Room := { frames := 1, cells := 0, slots := 0, locals := 20 }
set_option maxHeartbeats 4000000 in
set_option maxRecDepth 100000 in
theorem c_FM_isOdd (l : Launch) (dC : Nat → ClassId) (dI : Nat → Nat → Nat) (cI cJ : ClassId) (p0 : Int32) (F : Nat) (u : Int32) (hf : f_FM_isOdd F p0 = some u) : Met l y_FM_isOdd (Cond.code y_FM_isOdd prog_1_method_17_code 1 (some .boolean) :: T0) rm_FM_isOdd (va_Pc [.int p0] (Wr (dC, dI) [] [(cI, .int), (cJ, .long)])) (vp_Si (fun r => r = u)) 0 0 (fun _ => False) := by
  refine Met.ofW (cc := prog_1_method_17_code) (maxL := 1) (ret := (some .boolean)) (by decide) rfl ?_
  intro p e s m args below meth c s₁ B hml hv
  obtain ⟨rfl, hP, hK, hNW⟩ := hv
  have hx := B.exec
  have hb := B.bytes
  have hr := B.returns
  have hts := atoms_spec (ws := Cond.code y_FM_isOdd prog_1_method_17_code 1 (some .boolean) :: T0) B.pre
  have ht0 : ∀ w ∈ T0, w.before ([.int p0] : List Value).toArray s = true := fun w h => hts w (List.mem_cons_of_mem _ h)
  have hown : s.vm.findClass "FermionMaps" = some m.cls := findClass_of_methodNamed B.named
  have hlocks := B.notSynchronized
  have hl := lv_entry ([.int p0]) (n := 1) (Nat.le_of_ble_eq_true rfl)
  rw [lg_entry_eq]
  generalize (lg_sl ([.int p0]) ++ List.replicate (1 - (lg_sl ([.int p0])).length) Slot.unset).toArray = ls at hl ⊢
  have hl : lv_has ls 1 [(0, .int p0)] := hl
  refine W.nameQ (fun Q hQ => ?_)
  rw [f_FM_isOdd] at hf
  refine lv_iload_n hx hb d_FM_isOdd_0 rfl (lv_at hl 0 rfl) ?_
  obtain ⟨u_1, h_u_1, hf⟩ := bd hf
  refine rd_i (rdS_run (As := [.int p0]) (rest := []) ⟨hx, hb, hml, hown, ht0⟩ (c_In_bitCount l dC dI cI cJ p0 F u_1 h_u_1) (va_cwS 1 ht0 (gS m_202 m_203 m_7 m_204) rfl rfl rfl (by decide +kernel) ⟨Nat.le_of_ble_eq_true rfl, Nat.le_of_ble_eq_true rfl⟩) hK hNW hP [] rfl  rfl hl.1 rfl (Nat.le_of_ble_eq_true rfl) d_FM_isOdd_1 ⟨Nat.zero_le _, Nat.zero_le _⟩) ?_
  refine lv_iconst (v := 1) hx hb d_FM_isOdd_4 (by decide) ?_
  refine lv_iand hx hb d_FM_isOdd_5 ?_
  refine lv_if_eq (tgt := 13) hx hb d_FM_isOdd_6 (by decide) (fun c_2 => ?_) (fun c_2 => ?_)
  · replace hf := if_t c_2 hf
    refine lv_iconst (v := 0) hx hb d_FM_isOdd_13 (by decide) ?_
    have hu := Option.some.inj hf
    subst hu
    exact rt_z hQ rfl rfl hx hb hr hlocks d_FM_isOdd_14
  · replace hf := if_f c_2 hf
    refine lv_iconst (v := 1) hx hb d_FM_isOdd_9 (by decide) ?_
    refine lv_goto (tgt := 14) hx hb d_FM_isOdd_10 (by decide) ?_
    have hu := Option.some.inj hf
    subst hu
    exact rt_z hQ rfl rfl hx hb hr hlocks d_FM_isOdd_14

/-! FermionMaps.has(II)Z -/
def f_FM_has (F : Nat) (p0 : Int32) (p1 : Int32) : Option (Int32) :=
  if ((p0 >>> (p1 &&& 31)) &&& 1) = 0 then
    some (0)
  else
    some (1)
abbrev rm_FM_has : Room := { frames := 0, cells := 0, slots := 0, locals := 0 }
set_option maxHeartbeats 4000000 in
set_option maxRecDepth 100000 in
theorem c_FM_has (l : Launch) (dC : Nat → ClassId) (dI : Nat → Nat → Nat) (cI cJ : ClassId) (p0 : Int32) (p1 : Int32) (F : Nat) (u : Int32) (hf : f_FM_has F p0 p1 = some u) : Met l y_FM_has (Cond.code y_FM_has prog_1_method_16_code 2 (some .boolean) :: T0) rm_FM_has (va_Pc [.int p0, .int p1] (Wr (dC, dI) [] [(cI, .int), (cJ, .long)])) (vp_Si (fun r => r = u)) 0 0 (fun _ => False) := by
  refine Met.ofW (cc := prog_1_method_16_code) (maxL := 2) (ret := (some .boolean)) (by decide) rfl ?_
  intro p e s m args below meth c s₁ B hml hv
  obtain ⟨rfl, hP, hK, hNW⟩ := hv
  have hx := B.exec
  have hb := B.bytes
  have hr := B.returns
  have hts := atoms_spec (ws := Cond.code y_FM_has prog_1_method_16_code 2 (some .boolean) :: T0) B.pre
  have ht0 : ∀ w ∈ T0, w.before ([.int p0, .int p1] : List Value).toArray s = true := fun w h => hts w (List.mem_cons_of_mem _ h)
  have hown : s.vm.findClass "FermionMaps" = some m.cls := findClass_of_methodNamed B.named
  have hlocks := B.notSynchronized
  have hl := lv_entry ([.int p0, .int p1]) (n := 2) (Nat.le_of_ble_eq_true rfl)
  rw [lg_entry_eq]
  generalize (lg_sl ([.int p0, .int p1]) ++ List.replicate (2 - (lg_sl ([.int p0, .int p1])).length) Slot.unset).toArray = ls at hl ⊢
  have hl : lv_has ls 2 [(0, .int p0), (1, .int p1)] := hl
  refine W.nameQ (fun Q hQ => ?_)
  rw [f_FM_has] at hf
  refine lv_iload_n hx hb d_FM_has_0 rfl (lv_at hl 0 rfl) ?_
  refine lv_iload_n hx hb d_FM_has_1 rfl (lv_at hl 1 rfl) ?_
  refine lv_ishr hx hb d_FM_has_2 ?_
  refine lv_iconst (v := 1) hx hb d_FM_has_3 (by decide) ?_
  refine lv_iand hx hb d_FM_has_4 ?_
  refine lv_if_eq (tgt := 12) hx hb d_FM_has_5 (by decide) (fun c_1 => ?_) (fun c_1 => ?_)
  · replace hf := if_t c_1 hf
    refine lv_iconst (v := 0) hx hb d_FM_has_12 (by decide) ?_
    have hu := Option.some.inj hf
    subst hu
    exact rt_z hQ rfl rfl hx hb hr hlocks d_FM_has_13
  · replace hf := if_f c_1 hf
    refine lv_iconst (v := 1) hx hb d_FM_has_8 (by decide) ?_
    refine lv_goto (tgt := 13) hx hb d_FM_has_9 (by decide) ?_
    have hu := Option.some.inj hf
    subst hu
    exact rt_z hQ rfl rfl hx hb hr hlocks d_FM_has_13

/-! FermionMaps.oddBelow(I)I -/
def f_FM_oddBelow (F : Nat) (p0 : Int32) : Option (Int32) :=
  nm ((p0 >>> ((1 : Int32) &&& 31)) : Int32) fun x1_1 =>
  nm ((x1_1 ^^^ (x1_1 >>> ((1 : Int32) &&& 31))) : Int32) fun x1_2 =>
  nm ((x1_2 ^^^ (x1_2 >>> ((2 : Int32) &&& 31))) : Int32) fun x1_3 =>
  nm ((x1_3 ^^^ (x1_3 >>> ((4 : Int32) &&& 31))) : Int32) fun x1_4 =>
  some (x1_4)
abbrev rm_FM_oddBelow : Room := { frames := 0, cells := 0, slots := 0, locals := 0 }
set_option maxHeartbeats 4000000 in
set_option maxRecDepth 100000 in
theorem c_FM_oddBelow (l : Launch) (dC : Nat → ClassId) (dI : Nat → Nat → Nat) (cI cJ : ClassId) (p0 : Int32) (F : Nat) (u : Int32) (hf : f_FM_oddBelow F p0 = some u) : Met l y_FM_oddBelow (Cond.code y_FM_oddBelow prog_1_method_18_code 2 (some .int) :: T0) rm_FM_oddBelow (va_Pc [.int p0] (Wr (dC, dI) [] [(cI, .int), (cJ, .long)])) (vp_Si (fun r => r = u)) 0 0 (fun _ => False) := by
  refine Met.ofW (cc := prog_1_method_18_code) (maxL := 2) (ret := (some .int)) (by decide) rfl ?_
  intro p e s m args below meth c s₁ B hml hv
  obtain ⟨rfl, hP, hK, hNW⟩ := hv
  have hx := B.exec
  have hb := B.bytes
  have hr := B.returns
  have hts := atoms_spec (ws := Cond.code y_FM_oddBelow prog_1_method_18_code 2 (some .int) :: T0) B.pre
  have ht0 : ∀ w ∈ T0, w.before ([.int p0] : List Value).toArray s = true := fun w h => hts w (List.mem_cons_of_mem _ h)
  have hown : s.vm.findClass "FermionMaps" = some m.cls := findClass_of_methodNamed B.named
  have hlocks := B.notSynchronized
  have hl := lv_entry ([.int p0]) (n := 2) (Nat.le_of_ble_eq_true rfl)
  rw [lg_entry_eq]
  generalize (lg_sl ([.int p0]) ++ List.replicate (2 - (lg_sl ([.int p0])).length) Slot.unset).toArray = ls at hl ⊢
  have hl : lv_has ls 2 [(0, .int p0)] := hl
  refine W.nameQ (fun Q hQ => ?_)
  rw [f_FM_oddBelow] at hf
  refine lv_iload_n hx hb d_FM_oddBelow_0 rfl (lv_at hl 0 rfl) ?_
  refine lv_iconst (v := 1) hx hb d_FM_oddBelow_1 (by decide) ?_
  refine lv_ishr hx hb d_FM_oddBelow_2 ?_
  refine lv_topi (fun x1_1 e_x1_1 => ?_)
  replace hf := nm_eq e_x1_1 hf
  refine lv_istore_n (lv' := [(1, .int x1_1), (0, .int p0)]) hx hb d_FM_oddBelow_3 rfl hl (by decide) rfl (fun ls hl => ?_)
  refine lv_iload_n hx hb d_FM_oddBelow_4 rfl (lv_at hl 0 rfl) ?_
  refine lv_iload_n hx hb d_FM_oddBelow_5 rfl (lv_at hl 0 rfl) ?_
  refine lv_iconst (v := 1) hx hb d_FM_oddBelow_6 (by decide) ?_
  refine lv_ishr hx hb d_FM_oddBelow_7 ?_
  refine lv_ixor hx hb d_FM_oddBelow_8 ?_
  refine lv_topi (fun x1_2 e_x1_2 => ?_)
  replace hf := nm_eq e_x1_2 hf
  refine lv_istore_n (lv' := [(1, .int x1_2), (0, .int p0)]) hx hb d_FM_oddBelow_9 rfl hl (by decide) rfl (fun ls hl => ?_)
  refine lv_iload_n hx hb d_FM_oddBelow_10 rfl (lv_at hl 0 rfl) ?_
  refine lv_iload_n hx hb d_FM_oddBelow_11 rfl (lv_at hl 0 rfl) ?_
  refine lv_iconst (v := 2) hx hb d_FM_oddBelow_12 (by decide) ?_
  refine lv_ishr hx hb d_FM_oddBelow_13 ?_
  refine lv_ixor hx hb d_FM_oddBelow_14 ?_
  refine lv_topi (fun x1_3 e_x1_3 => ?_)
  replace hf := nm_eq e_x1_3 hf
  refine lv_istore_n (lv' := [(1, .int x1_3), (0, .int p0)]) hx hb d_FM_oddBelow_15 rfl hl (by decide) rfl (fun ls hl => ?_)
  refine lv_iload_n hx hb d_FM_oddBelow_16 rfl (lv_at hl 0 rfl) ?_
  refine lv_iload_n hx hb d_FM_oddBelow_17 rfl (lv_at hl 0 rfl) ?_
  refine lv_iconst (v := 4) hx hb d_FM_oddBelow_18 (by decide) ?_
  refine lv_ishr hx hb d_FM_oddBelow_19 ?_
  refine lv_ixor hx hb d_FM_oddBelow_20 ?_
  refine lv_topi (fun x1_4 e_x1_4 => ?_)
  replace hf := nm_eq e_x1_4 hf
  refine lv_istore_n (lv' := [(1, .int x1_4), (0, .int p0)]) hx hb d_FM_oddBelow_21 rfl hl (by decide) rfl (fun ls hl => ?_)
  refine lv_iload_n hx hb d_FM_oddBelow_22 rfl (lv_at hl 0 rfl) ?_
  have hu := Option.some.inj hf
  subst hu
  exact rt_i hQ rfl hx hb hr hlocks d_FM_oddBelow_23

/-! FermionMaps.turnsAlways(II)Z -/
def f_FM_turnsAlways (F : Nat) (p0 : Int32) (p1 : Int32) : Option (Int32) :=
  (f_FM_oddBelow F p0).bind fun u_1 =>
  (f_FM_isOdd F (p1 &&& u_1)).bind fun u_2 =>
  ckB u_2 <|
  some (u_2)
abbrev rm_FM_turnsAlways : Room := { frames := 2, cells := 0, slots := 0, locals := 40 }
set_option maxHeartbeats 4000000 in
set_option maxRecDepth 100000 in
theorem c_FM_turnsAlways (l : Launch) (dC : Nat → ClassId) (dI : Nat → Nat → Nat) (cI cJ : ClassId) (p0 : Int32) (p1 : Int32) (F : Nat) (u : Int32) (hf : f_FM_turnsAlways F p0 p1 = some u) : Met l y_FM_turnsAlways (Cond.code y_FM_turnsAlways prog_1_method_19_code 2 (some .boolean) :: T0) rm_FM_turnsAlways (va_Pc [.int p0, .int p1] (Wr (dC, dI) [] [(cI, .int), (cJ, .long)])) (vp_Si (fun r => r = u)) 0 0 (fun _ => False) := by
  refine Met.ofW (cc := prog_1_method_19_code) (maxL := 2) (ret := (some .boolean)) (by decide) rfl ?_
  intro p e s m args below meth c s₁ B hml hv
  obtain ⟨rfl, hP, hK, hNW⟩ := hv
  have hx := B.exec
  have hb := B.bytes
  have hr := B.returns
  have hts := atoms_spec (ws := Cond.code y_FM_turnsAlways prog_1_method_19_code 2 (some .boolean) :: T0) B.pre
  have ht0 : ∀ w ∈ T0, w.before ([.int p0, .int p1] : List Value).toArray s = true := fun w h => hts w (List.mem_cons_of_mem _ h)
  have hown : s.vm.findClass "FermionMaps" = some m.cls := findClass_of_methodNamed B.named
  have hlocks := B.notSynchronized
  have hl := lv_entry ([.int p0, .int p1]) (n := 2) (Nat.le_of_ble_eq_true rfl)
  rw [lg_entry_eq]
  generalize (lg_sl ([.int p0, .int p1]) ++ List.replicate (2 - (lg_sl ([.int p0, .int p1])).length) Slot.unset).toArray = ls at hl ⊢
  have hl : lv_has ls 2 [(0, .int p0), (1, .int p1)] := hl
  refine W.nameQ (fun Q hQ => ?_)
  rw [f_FM_turnsAlways] at hf
  refine lv_iload_n hx hb d_FM_turnsAlways_0 rfl (lv_at hl 1 rfl) ?_
  refine lv_iload_n hx hb d_FM_turnsAlways_1 rfl (lv_at hl 0 rfl) ?_
  obtain ⟨u_1, h_u_1, hf⟩ := bd hf
  refine rd_i (rdS_run (As := [.int p0]) (rest := [.int p1]) ⟨hx, hb, hml, hown, ht0⟩ (c_FM_oddBelow l dC dI cI cJ p0 F u_1 h_u_1) (va_cwS 1 ht0 (gS m_296 m_287 m_1 m_288) rfl rfl rfl (by decide +kernel) ⟨Nat.le_of_ble_eq_true rfl, Nat.le_of_ble_eq_true rfl⟩) hK hNW hP [] rfl  rfl hl.1 rfl (Nat.le_of_ble_eq_true rfl) d_FM_turnsAlways_2 ⟨Nat.zero_le _, Nat.zero_le _⟩) ?_
  refine lv_iand hx hb d_FM_turnsAlways_5 ?_
  obtain ⟨u_2, h_u_2, hf⟩ := bd hf
  refine rd_i (rdS_run (As := [.int (p1 &&& u_1)]) (rest := []) ⟨hx, hb, hml, hown, ht0⟩ (c_FM_isOdd l dC dI cI cJ (p1 &&& u_1) F u_2 h_u_2) (va_cwS 1 ht0 (gS m_297 m_200 m_1 m_201) rfl rfl rfl (by decide +kernel) ⟨Nat.le_of_ble_eq_true rfl, Nat.le_of_ble_eq_true rfl⟩) hK hNW hP [] rfl  rfl hl.1 rfl (Nat.le_of_ble_eq_true rfl) d_FM_turnsAlways_6 ⟨Nat.zero_le _, Nat.zero_le _⟩) ?_
  obtain ⟨hz_3, hf⟩ := ckB_ok hf
  have hu := Option.some.inj hf
  subst hu
  exact rt_z hQ rfl hz_3 hx hb hr hlocks d_FM_turnsAlways_9

/-! FermionMaps.isBeyond(I)Z -/
def b_FM_isBeyond_12 (F : Nat) : Option (Int32) :=
  some (1)
def f_FM_isBeyond (F : Nat) (p0 : Int32) : Option (Int32) :=
  if p0 < (-1000000) then
    b_FM_isBeyond_12 F
  else
    if p0 ≤ 1000000 then
      some (0)
    else
      b_FM_isBeyond_12 F
abbrev rm_FM_isBeyond : Room := { frames := 0, cells := 0, slots := 0, locals := 0 }
set_option maxHeartbeats 4000000 in
set_option maxRecDepth 100000 in
theorem c_FM_isBeyond (l : Launch) (dC : Nat → ClassId) (dI : Nat → Nat → Nat) (cI cJ : ClassId) (p0 : Int32) (F : Nat) (u : Int32) (hf : f_FM_isBeyond F p0 = some u) : Met l y_FM_isBeyond (Cond.code y_FM_isBeyond prog_1_method_15_code 1 (some .boolean) :: T0) rm_FM_isBeyond (va_Pc [.int p0] (Wr (dC, dI) [] [(cI, .int), (cJ, .long)])) (vp_Si (fun r => r = u)) 0 0 (fun _ => False) := by
  refine Met.ofW (cc := prog_1_method_15_code) (maxL := 1) (ret := (some .boolean)) (by decide) rfl ?_
  intro p e s m args below meth c s₁ B hml hv
  obtain ⟨rfl, hP, hK, hNW⟩ := hv
  have hx := B.exec
  have hb := B.bytes
  have hr := B.returns
  have hts := atoms_spec (ws := Cond.code y_FM_isBeyond prog_1_method_15_code 1 (some .boolean) :: T0) B.pre
  have ht0 : ∀ w ∈ T0, w.before ([.int p0] : List Value).toArray s = true := fun w h => hts w (List.mem_cons_of_mem _ h)
  have hown : s.vm.findClass "FermionMaps" = some m.cls := findClass_of_methodNamed B.named
  have hlocks := B.notSynchronized
  have hl := lv_entry ([.int p0]) (n := 1) (Nat.le_of_ble_eq_true rfl)
  rw [lg_entry_eq]
  generalize (lg_sl ([.int p0]) ++ List.replicate (1 - (lg_sl ([.int p0])).length) Slot.unset).toArray = ls at hl ⊢
  have hl : lv_has ls 1 [(0, .int p0)] := hl
  refine W.nameQ (fun Q hQ => ?_)
  have B_12 : ∀ (ls : Array Slot), b_FM_isBeyond_12 F = some u → lv_has ls 1 [] → W p l e (headSpec (Cond.code y_FM_isBeyond prog_1_method_15_code 1 (some .boolean) :: T0) rm_FM_isBeyond).room s m ([.int p0] : List Value).toArray below meth c s.heap [] 0 0 Q (F0 m 12 ls []) := by
    intro ls hf hl
    rw [b_FM_isBeyond_12] at hf
    refine lv_iconst (v := 1) hx hb d_FM_isBeyond_12 (by decide) ?_
    refine lv_goto (tgt := 17) hx hb d_FM_isBeyond_13 (by decide) ?_
    have hu := Option.some.inj hf
    subst hu
    exact rt_z hQ rfl rfl hx hb hr hlocks d_FM_isBeyond_17
  rw [f_FM_isBeyond] at hf
  refine lv_iload_n hx hb d_FM_isBeyond_0 rfl (lv_at hl 0 rfl) ?_
  refine lv_ldc hx hb hown (ht0 _ m_156) d_FM_isBeyond_1 ?_
  refine lv_icmp_lt (tgt := 12) hx hb d_FM_isBeyond_3 (by decide) (fun c_1 => ?_) (fun c_1 => ?_)
  · replace hf := if_t c_1 hf
    exact B_12 ls hf (lv_sub hl [] rfl)
  · replace hf := if_f c_1 hf
    refine lv_iload_n hx hb d_FM_isBeyond_6 rfl (lv_at hl 0 rfl) ?_
    refine lv_ldc hx hb hown (ht0 _ m_157) d_FM_isBeyond_7 ?_
    refine lv_icmp_le (tgt := 16) hx hb d_FM_isBeyond_9 (by decide) (fun c_2 => ?_) (fun c_2 => ?_)
    · replace hf := if_t c_2 hf
      refine lv_iconst (v := 0) hx hb d_FM_isBeyond_16 (by decide) ?_
      have hu := Option.some.inj hf
      subst hu
      exact rt_z hQ rfl rfl hx hb hr hlocks d_FM_isBeyond_17
    · replace hf := if_f c_2 hf
      exact B_12 ls hf (lv_sub hl [] rfl)
