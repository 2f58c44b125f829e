theorem d_Mo_thrown_0 : decode prog_6_method_2_code 0 = .ok (.aload_n 0, 1) := by decide +kernel
theorem d_Mo_thrown_1 : decode prog_6_method_2_code 1 = .ok (.getfield 58, 3) := by decide +kernel
theorem d_Mo_thrown_4 : decode prog_6_method_2_code 4 = .ok (.ireturn, 1) := by decide +kernel
theorem d_Mo_raise_0 : decode prog_6_method_3_code 0 = .ok (.aload_n 0, 1) := by decide +kernel
theorem d_Mo_raise_1 : decode prog_6_method_3_code 1 = .ok (.iconst 1, 1) := by decide +kernel
theorem d_Mo_raise_2 : decode prog_6_method_3_code 2 = .ok (.putfield 58, 3) := by decide +kernel
theorem d_Mo_raise_5 : decode prog_6_method_3_code 5 = .ok (.iconst 0, 1) := by decide +kernel
theorem d_Mo_raise_6 : decode prog_6_method_3_code 6 = .ok (.ireturn, 1) := by decide +kernel
theorem d_Mo_states_0 : decode prog_6_method_4_code 0 = .ok (.iconst 1, 1) := by decide +kernel
theorem d_Mo_states_1 : decode prog_6_method_4_code 1 = .ok (.aload_n 0, 1) := by decide +kernel
theorem d_Mo_states_2 : decode prog_6_method_4_code 2 = .ok (.getfield 62, 3) := by decide +kernel
theorem d_Mo_states_5 : decode prog_6_method_4_code 5 = .ok (.ishl, 1) := by decide +kernel
theorem d_Mo_states_6 : decode prog_6_method_4_code 6 = .ok (.ireturn, 1) := by decide +kernel
theorem d_Mo_setOf_0 : decode prog_6_method_21_code 0 = .ok (.iload_n 1, 1) := by decide +kernel
theorem d_Mo_setOf_1 : decode prog_6_method_21_code 1 = .ok (.iconst 3, 1) := by decide +kernel
theorem d_Mo_setOf_2 : decode prog_6_method_21_code 2 = .ok (.if_icmp .ne 10, 3) := by decide +kernel
theorem d_Mo_setOf_5 : decode prog_6_method_21_code 5 = .ok (.aload_n 0, 1) := by decide +kernel
theorem d_Mo_setOf_6 : decode prog_6_method_21_code 6 = .ok (.getfield 20, 3) := by decide +kernel
theorem d_Mo_setOf_9 : decode prog_6_method_21_code 9 = .ok (.iload_n 2, 1) := by decide +kernel
theorem d_Mo_setOf_10 : decode prog_6_method_21_code 10 = .ok (.iaload, 1) := by decide +kernel
theorem d_Mo_setOf_11 : decode prog_6_method_21_code 11 = .ok (.ireturn, 1) := by decide +kernel
theorem d_Mo_setOf_12 : decode prog_6_method_21_code 12 = .ok (.iload_n 1, 1) := by decide +kernel
theorem d_Mo_setOf_13 : decode prog_6_method_21_code 13 = .ok (.ifCond .ne 7, 3) := by decide +kernel
theorem d_Mo_setOf_16 : decode prog_6_method_21_code 16 = .ok (.iconst 1, 1) := by decide +kernel
theorem d_Mo_setOf_17 : decode prog_6_method_21_code 17 = .ok (.iload_n 2, 1) := by decide +kernel
theorem d_Mo_setOf_18 : decode prog_6_method_21_code 18 = .ok (.ishl, 1) := by decide +kernel
theorem d_Mo_setOf_19 : decode prog_6_method_21_code 19 = .ok (.ireturn, 1) := by decide +kernel
theorem d_Mo_setOf_20 : decode prog_6_method_21_code 20 = .ok (.iload_n 1, 1) := by decide +kernel
theorem d_Mo_setOf_21 : decode prog_6_method_21_code 21 = .ok (.iconst 1, 1) := by decide +kernel
theorem d_Mo_setOf_22 : decode prog_6_method_21_code 22 = .ok (.if_icmp .ne 9, 3) := by decide +kernel
theorem d_Mo_setOf_25 : decode prog_6_method_21_code 25 = .ok (.iconst 2, 1) := by decide +kernel
theorem d_Mo_setOf_26 : decode prog_6_method_21_code 26 = .ok (.iload_n 2, 1) := by decide +kernel
theorem d_Mo_setOf_27 : decode prog_6_method_21_code 27 = .ok (.ishl, 1) := by decide +kernel
theorem d_Mo_setOf_28 : decode prog_6_method_21_code 28 = .ok (.iconst 1, 1) := by decide +kernel
theorem d_Mo_setOf_29 : decode prog_6_method_21_code 29 = .ok (.isub, 1) := by decide +kernel
theorem d_Mo_setOf_30 : decode prog_6_method_21_code 30 = .ok (.ireturn, 1) := by decide +kernel
theorem d_Mo_setOf_31 : decode prog_6_method_21_code 31 = .ok (.iload_n 2, 1) := by decide +kernel
theorem d_Mo_setOf_32 : decode prog_6_method_21_code 32 = .ok (.iconst 1, 1) := by decide +kernel
theorem d_Mo_setOf_33 : decode prog_6_method_21_code 33 = .ok (.iadd, 1) := by decide +kernel
theorem d_Mo_setOf_34 : decode prog_6_method_21_code 34 = .ok (.iload_n 2, 1) := by decide +kernel
theorem d_Mo_setOf_35 : decode prog_6_method_21_code 35 = .ok (.iconst 1, 1) := by decide +kernel
theorem d_Mo_setOf_36 : decode prog_6_method_21_code 36 = .ok (.iadd, 1) := by decide +kernel
theorem d_Mo_setOf_37 : decode prog_6_method_21_code 37 = .ok (.ineg, 1) := by decide +kernel
theorem d_Mo_setOf_38 : decode prog_6_method_21_code 38 = .ok (.iand, 1) := by decide +kernel
theorem d_Mo_setOf_39 : decode prog_6_method_21_code 39 = .ok (.istore_n 3, 1) := by decide +kernel
theorem d_Mo_setOf_40 : decode prog_6_method_21_code 40 = .ok (.iconst 2, 1) := by decide +kernel
theorem d_Mo_setOf_41 : decode prog_6_method_21_code 41 = .ok (.iload_n 2, 1) := by decide +kernel
theorem d_Mo_setOf_42 : decode prog_6_method_21_code 42 = .ok (.ishl, 1) := by decide +kernel
theorem d_Mo_setOf_43 : decode prog_6_method_21_code 43 = .ok (.iconst 1, 1) := by decide +kernel
theorem d_Mo_setOf_44 : decode prog_6_method_21_code 44 = .ok (.iload_n 2, 1) := by decide +kernel
theorem d_Mo_setOf_45 : decode prog_6_method_21_code 45 = .ok (.iload_n 3, 1) := by decide +kernel
theorem d_Mo_setOf_46 : decode prog_6_method_21_code 46 = .ok (.isub, 1) := by decide +kernel
theorem d_Mo_setOf_47 : decode prog_6_method_21_code 47 = .ok (.iconst 1, 1) := by decide +kernel
theorem d_Mo_setOf_48 : decode prog_6_method_21_code 48 = .ok (.iadd, 1) := by decide +kernel
theorem d_Mo_setOf_49 : decode prog_6_method_21_code 49 = .ok (.ishl, 1) := by decide +kernel
theorem d_Mo_setOf_50 : decode prog_6_method_21_code 50 = .ok (.isub, 1) := by decide +kernel
theorem d_Mo_setOf_51 : decode prog_6_method_21_code 51 = .ok (.ireturn, 1) := by decide +kernel
theorem d_Mo_ones_0 : decode prog_6_method_8_code 0 = .ok (.iconst 0, 1) := by decide +kernel
theorem d_Mo_ones_1 : decode prog_6_method_8_code 1 = .ok (.istore_n 1, 1) := by decide +kernel
theorem d_Mo_ones_2 : decode prog_6_method_8_code 2 = .ok (.iconst 0, 1) := by decide +kernel
theorem d_Mo_ones_3 : decode prog_6_method_8_code 3 = .ok (.istore_n 2, 1) := by decide +kernel
theorem d_Mo_ones_4 : decode prog_6_method_8_code 4 = .ok (.iload_n 2, 1) := by decide +kernel
theorem d_Mo_ones_5 : decode prog_6_method_8_code 5 = .ok (.bipush 8, 2) := by decide +kernel
theorem d_Mo_ones_7 : decode prog_6_method_8_code 7 = .ok (.if_icmp .ge 17, 3) := by decide +kernel
theorem d_Mo_ones_10 : decode prog_6_method_8_code 10 = .ok (.iload_n 1, 1) := by decide +kernel
theorem d_Mo_ones_11 : decode prog_6_method_8_code 11 = .ok (.iload_n 0, 1) := by decide +kernel
theorem d_Mo_ones_12 : decode prog_6_method_8_code 12 = .ok (.iload_n 2, 1) := by decide +kernel
theorem d_Mo_ones_13 : decode prog_6_method_8_code 13 = .ok (.ishr, 1) := by decide +kernel
theorem d_Mo_ones_14 : decode prog_6_method_8_code 14 = .ok (.iconst 1, 1) := by decide +kernel
theorem d_Mo_ones_15 : decode prog_6_method_8_code 15 = .ok (.iand, 1) := by decide +kernel
theorem d_Mo_ones_16 : decode prog_6_method_8_code 16 = .ok (.iadd, 1) := by decide +kernel
theorem d_Mo_ones_17 : decode prog_6_method_8_code 17 = .ok (.istore_n 1, 1) := by decide +kernel
theorem d_Mo_ones_18 : decode prog_6_method_8_code 18 = .ok (.iinc 2 1, 3) := by decide +kernel
theorem d_Mo_ones_21 : decode prog_6_method_8_code 21 = .ok (.goto (-17), 3) := by decide +kernel
theorem d_Mo_ones_24 : decode prog_6_method_8_code 24 = .ok (.iload_n 1, 1) := by decide +kernel
theorem d_Mo_ones_25 : decode prog_6_method_8_code 25 = .ok (.ireturn, 1) := by decide +kernel
theorem d_Mo_write_0 : decode prog_6_method_22_code 0 = .ok (.iconst 0, 1) := by decide +kernel
theorem d_Mo_write_1 : decode prog_6_method_22_code 1 = .ok (.istore_n 3, 1) := by decide +kernel
theorem d_Mo_write_2 : decode prog_6_method_22_code 2 = .ok (.iconst 0, 1) := by decide +kernel
theorem d_Mo_write_3 : decode prog_6_method_22_code 3 = .ok (.istore 4, 2) := by decide +kernel
theorem d_Mo_write_5 : decode prog_6_method_22_code 5 = .ok (.iload 4, 2) := by decide +kernel
theorem d_Mo_write_7 : decode prog_6_method_22_code 7 = .ok (.aload_n 0, 1) := by decide +kernel
theorem d_Mo_write_8 : decode prog_6_method_22_code 8 = .ok (.getfield 62, 3) := by decide +kernel
theorem d_Mo_write_11 : decode prog_6_method_22_code 11 = .ok (.if_icmp .ge 29, 3) := by decide +kernel
theorem d_Mo_write_14 : decode prog_6_method_22_code 14 = .ok (.iload_n 3, 1) := by decide +kernel
theorem d_Mo_write_15 : decode prog_6_method_22_code 15 = .ok (.aload_n 0, 1) := by decide +kernel
theorem d_Mo_write_16 : decode prog_6_method_22_code 16 = .ok (.iload_n 1, 1) := by decide +kernel
theorem d_Mo_write_17 : decode prog_6_method_22_code 17 = .ok (.iload 4, 2) := by decide +kernel
theorem d_Mo_write_19 : decode prog_6_method_22_code 19 = .ok (.invokevirtual 132, 3) := by decide +kernel
theorem d_Mo_write_22 : decode prog_6_method_22_code 22 = .ok (.iload_n 2, 1) := by decide +kernel
theorem d_Mo_write_23 : decode prog_6_method_22_code 23 = .ok (.iand, 1) := by decide +kernel
theorem d_Mo_write_24 : decode prog_6_method_22_code 24 = .ok (.invokestatic 81, 3) := by decide +kernel
theorem d_Mo_write_27 : decode prog_6_method_22_code 27 = .ok (.iconst 2, 1) := by decide +kernel
theorem d_Mo_write_28 : decode prog_6_method_22_code 28 = .ok (.irem, 1) := by decide +kernel
theorem d_Mo_write_29 : decode prog_6_method_22_code 29 = .ok (.iload 4, 2) := by decide +kernel
theorem d_Mo_write_31 : decode prog_6_method_22_code 31 = .ok (.ishl, 1) := by decide +kernel
theorem d_Mo_write_32 : decode prog_6_method_22_code 32 = .ok (.ior, 1) := by decide +kernel
theorem d_Mo_write_33 : decode prog_6_method_22_code 33 = .ok (.istore_n 3, 1) := by decide +kernel
theorem d_Mo_write_34 : decode prog_6_method_22_code 34 = .ok (.iinc 4 1, 3) := by decide +kernel
theorem d_Mo_write_37 : decode prog_6_method_22_code 37 = .ok (.goto (-32), 3) := by decide +kernel
theorem d_Mo_write_40 : decode prog_6_method_22_code 40 = .ok (.iload_n 3, 1) := by decide +kernel
theorem d_Mo_write_41 : decode prog_6_method_22_code 41 = .ok (.ireturn, 1) := by decide +kernel
theorem d_Mo_writeAll_0 : decode prog_6_method_23_code 0 = .ok (.iconst 0, 1) := by decide +kernel
theorem d_Mo_writeAll_1 : decode prog_6_method_23_code 1 = .ok (.istore_n 1, 1) := by decide +kernel
theorem d_Mo_writeAll_2 : decode prog_6_method_23_code 2 = .ok (.iload_n 1, 1) := by decide +kernel
theorem d_Mo_writeAll_3 : decode prog_6_method_23_code 3 = .ok (.aload_n 0, 1) := by decide +kernel
theorem d_Mo_writeAll_4 : decode prog_6_method_23_code 4 = .ok (.invokevirtual 65, 3) := by decide +kernel
theorem d_Mo_writeAll_7 : decode prog_6_method_23_code 7 = .ok (.if_icmp .ge 36, 3) := by decide +kernel
theorem d_Mo_writeAll_10 : decode prog_6_method_23_code 10 = .ok (.aload_n 0, 1) := by decide +kernel
theorem d_Mo_writeAll_11 : decode prog_6_method_23_code 11 = .ok (.getfield 23, 3) := by decide +kernel
theorem d_Mo_writeAll_14 : decode prog_6_method_23_code 14 = .ok (.iload_n 1, 1) := by decide +kernel
theorem d_Mo_writeAll_15 : decode prog_6_method_23_code 15 = .ok (.aload_n 0, 1) := by decide +kernel
theorem d_Mo_writeAll_16 : decode prog_6_method_23_code 16 = .ok (.aload_n 0, 1) := by decide +kernel
theorem d_Mo_writeAll_17 : decode prog_6_method_23_code 17 = .ok (.getfield 72, 3) := by decide +kernel
theorem d_Mo_writeAll_20 : decode prog_6_method_23_code 20 = .ok (.iload_n 1, 1) := by decide +kernel
theorem d_Mo_writeAll_21 : decode prog_6_method_23_code 21 = .ok (.invokevirtual 136, 3) := by decide +kernel
theorem d_Mo_writeAll_24 : decode prog_6_method_23_code 24 = .ok (.iastore, 1) := by decide +kernel
theorem d_Mo_writeAll_25 : decode prog_6_method_23_code 25 = .ok (.aload_n 0, 1) := by decide +kernel
theorem d_Mo_writeAll_26 : decode prog_6_method_23_code 26 = .ok (.getfield 26, 3) := by decide +kernel
theorem d_Mo_writeAll_29 : decode prog_6_method_23_code 29 = .ok (.aload_n 0, 1) := by decide +kernel
theorem d_Mo_writeAll_30 : decode prog_6_method_23_code 30 = .ok (.getfield 23, 3) := by decide +kernel
theorem d_Mo_writeAll_33 : decode prog_6_method_23_code 33 = .ok (.iload_n 1, 1) := by decide +kernel
theorem d_Mo_writeAll_34 : decode prog_6_method_23_code 34 = .ok (.iaload, 1) := by decide +kernel
theorem d_Mo_writeAll_35 : decode prog_6_method_23_code 35 = .ok (.iload_n 1, 1) := by decide +kernel
theorem d_Mo_writeAll_36 : decode prog_6_method_23_code 36 = .ok (.iastore, 1) := by decide +kernel
theorem d_Mo_writeAll_37 : decode prog_6_method_23_code 37 = .ok (.iinc 1 1, 3) := by decide +kernel
theorem d_Mo_writeAll_40 : decode prog_6_method_23_code 40 = .ok (.goto (-38), 3) := by decide +kernel
theorem d_Mo_writeAll_43 : decode prog_6_method_23_code 43 = .ok (.aload_n 0, 1) := by decide +kernel
theorem d_Mo_writeAll_44 : decode prog_6_method_23_code 44 = .ok (.iconst 0, 1) := by decide +kernel
theorem d_Mo_writeAll_45 : decode prog_6_method_23_code 45 = .ok (.putfield 103, 3) := by decide +kernel
theorem d_Mo_writeAll_48 : decode prog_6_method_23_code 48 = .ok (.return_, 1) := by decide +kernel
theorem d_Mo_start_0 : decode prog_6_method_6_code 0 = .ok (.aload_n 0, 1) := by decide +kernel
theorem d_Mo_start_1 : decode prog_6_method_6_code 1 = .ok (.iload_n 1, 1) := by decide +kernel
theorem d_Mo_start_2 : decode prog_6_method_6_code 2 = .ok (.putfield 62, 3) := by decide +kernel
theorem d_Mo_start_5 : decode prog_6_method_6_code 5 = .ok (.aload_n 0, 1) := by decide +kernel
theorem d_Mo_start_6 : decode prog_6_method_6_code 6 = .ok (.iconst 0, 1) := by decide +kernel
theorem d_Mo_start_7 : decode prog_6_method_6_code 7 = .ok (.putfield 69, 3) := by decide +kernel
theorem d_Mo_start_10 : decode prog_6_method_6_code 10 = .ok (.iconst 0, 1) := by decide +kernel
theorem d_Mo_start_11 : decode prog_6_method_6_code 11 = .ok (.istore_n 2, 1) := by decide +kernel
theorem d_Mo_start_12 : decode prog_6_method_6_code 12 = .ok (.iload_n 2, 1) := by decide +kernel
theorem d_Mo_start_13 : decode prog_6_method_6_code 13 = .ok (.bipush 8, 2) := by decide +kernel
theorem d_Mo_start_15 : decode prog_6_method_6_code 15 = .ok (.if_icmp .ge 18, 3) := by decide +kernel
theorem d_Mo_start_18 : decode prog_6_method_6_code 18 = .ok (.aload_n 0, 1) := by decide +kernel
theorem d_Mo_start_19 : decode prog_6_method_6_code 19 = .ok (.getfield 20, 3) := by decide +kernel
theorem d_Mo_start_22 : decode prog_6_method_6_code 22 = .ok (.iload_n 2, 1) := by decide +kernel
theorem d_Mo_start_23 : decode prog_6_method_6_code 23 = .ok (.iconst 1, 1) := by decide +kernel
theorem d_Mo_start_24 : decode prog_6_method_6_code 24 = .ok (.iload_n 2, 1) := by decide +kernel
theorem d_Mo_start_25 : decode prog_6_method_6_code 25 = .ok (.ishl, 1) := by decide +kernel
theorem d_Mo_start_26 : decode prog_6_method_6_code 26 = .ok (.iastore, 1) := by decide +kernel
theorem d_Mo_start_27 : decode prog_6_method_6_code 27 = .ok (.iinc 2 1, 3) := by decide +kernel
theorem d_Mo_start_30 : decode prog_6_method_6_code 30 = .ok (.goto (-18), 3) := by decide +kernel
theorem d_Mo_start_33 : decode prog_6_method_6_code 33 = .ok (.aload_n 0, 1) := by decide +kernel
theorem d_Mo_start_34 : decode prog_6_method_6_code 34 = .ok (.iconst 0, 1) := by decide +kernel
theorem d_Mo_start_35 : decode prog_6_method_6_code 35 = .ok (.putfield 72, 3) := by decide +kernel
theorem d_Mo_start_38 : decode prog_6_method_6_code 38 = .ok (.aload_n 0, 1) := by decide +kernel
theorem d_Mo_start_39 : decode prog_6_method_6_code 39 = .ok (.invokevirtual 75, 3) := by decide +kernel
theorem d_Mo_start_42 : decode prog_6_method_6_code 42 = .ok (.return_, 1) := by decide +kernel
theorem d_Mo_begin_0 : decode prog_6_method_7_code 0 = .ok (.aload_n 0, 1) := by decide +kernel
theorem d_Mo_begin_1 : decode prog_6_method_7_code 1 = .ok (.iconst 0, 1) := by decide +kernel
theorem d_Mo_begin_2 : decode prog_6_method_7_code 2 = .ok (.putfield 58, 3) := by decide +kernel
theorem d_Mo_begin_5 : decode prog_6_method_7_code 5 = .ok (.iload_n 1, 1) := by decide +kernel
theorem d_Mo_begin_6 : decode prog_6_method_7_code 6 = .ok (.iconst 1, 1) := by decide +kernel
theorem d_Mo_begin_7 : decode prog_6_method_7_code 7 = .ok (.if_icmp .lt 9, 3) := by decide +kernel
theorem d_Mo_begin_10 : decode prog_6_method_7_code 10 = .ok (.iload_n 1, 1) := by decide +kernel
theorem d_Mo_begin_11 : decode prog_6_method_7_code 11 = .ok (.bipush 8, 2) := by decide +kernel
theorem d_Mo_begin_13 : decode prog_6_method_7_code 13 = .ok (.if_icmp .le 5, 3) := by decide +kernel
theorem d_Mo_begin_16 : decode prog_6_method_7_code 16 = .ok (.iconst 0, 1) := by decide +kernel
theorem d_Mo_begin_17 : decode prog_6_method_7_code 17 = .ok (.ireturn, 1) := by decide +kernel
theorem d_Mo_begin_18 : decode prog_6_method_7_code 18 = .ok (.aload_n 0, 1) := by decide +kernel
theorem d_Mo_begin_19 : decode prog_6_method_7_code 19 = .ok (.iload_n 1, 1) := by decide +kernel
theorem d_Mo_begin_20 : decode prog_6_method_7_code 20 = .ok (.invokevirtual 54, 3) := by decide +kernel
theorem d_Mo_begin_23 : decode prog_6_method_7_code 23 = .ok (.iconst 1, 1) := by decide +kernel
theorem d_Mo_begin_24 : decode prog_6_method_7_code 24 = .ok (.ireturn, 1) := by decide +kernel
theorem d_Mo_isState_0 : decode prog_6_method_5_code 0 = .ok (.iload_n 1, 1) := by decide +kernel
theorem d_Mo_isState_1 : decode prog_6_method_5_code 1 = .ok (.ifCond .lt 15, 3) := by decide +kernel
theorem d_Mo_isState_4 : decode prog_6_method_5_code 4 = .ok (.iload_n 1, 1) := by decide +kernel
theorem d_Mo_isState_5 : decode prog_6_method_5_code 5 = .ok (.aload_n 0, 1) := by decide +kernel
theorem d_Mo_isState_6 : decode prog_6_method_5_code 6 = .ok (.invokevirtual 65, 3) := by decide +kernel
theorem d_Mo_isState_9 : decode prog_6_method_5_code 9 = .ok (.if_icmp .ge 7, 3) := by decide +kernel
theorem d_Mo_isState_12 : decode prog_6_method_5_code 12 = .ok (.iconst 1, 1) := by decide +kernel
theorem d_Mo_isState_13 : decode prog_6_method_5_code 13 = .ok (.goto 4, 3) := by decide +kernel
theorem d_Mo_isState_16 : decode prog_6_method_5_code 16 = .ok (.iconst 0, 1) := by decide +kernel
theorem d_Mo_isState_17 : decode prog_6_method_5_code 17 = .ok (.ireturn, 1) := by decide +kernel
theorem d_Mo_put_0 : decode prog_6_method_12_code 0 = .ok (.lload_n 3, 1) := by decide +kernel
theorem d_Mo_put_1 : decode prog_6_method_12_code 1 = .ok (.lconst 0, 1) := by decide +kernel
theorem d_Mo_put_2 : decode prog_6_method_12_code 2 = .ok (.lcmp, 1) := by decide +kernel
theorem d_Mo_put_3 : decode prog_6_method_12_code 3 = .ok (.ifCond .ne 5, 3) := by decide +kernel
theorem d_Mo_put_6 : decode prog_6_method_12_code 6 = .ok (.iconst 1, 1) := by decide +kernel
theorem d_Mo_put_7 : decode prog_6_method_12_code 7 = .ok (.ireturn, 1) := by decide +kernel
theorem d_Mo_put_8 : decode prog_6_method_12_code 8 = .ok (.aload_n 0, 1) := by decide +kernel
theorem d_Mo_put_9 : decode prog_6_method_12_code 9 = .ok (.getfield 96, 3) := by decide +kernel
theorem d_Mo_put_12 : decode prog_6_method_12_code 12 = .ok (.bipush 60, 2) := by decide +kernel
theorem d_Mo_put_14 : decode prog_6_method_12_code 14 = .ok (.if_icmp .eq 19, 3) := by decide +kernel
theorem d_Mo_put_17 : decode prog_6_method_12_code 17 = .ok (.lload_n 3, 1) := by decide +kernel
theorem d_Mo_put_18 : decode prog_6_method_12_code 18 = .ok (.ldc2_w 99, 3) := by decide +kernel
theorem d_Mo_put_21 : decode prog_6_method_12_code 21 = .ok (.lcmp, 1) := by decide +kernel
theorem d_Mo_put_22 : decode prog_6_method_12_code 22 = .ok (.ifCond .gt 11, 3) := by decide +kernel
theorem d_Mo_put_25 : decode prog_6_method_12_code 25 = .ok (.lload_n 3, 1) := by decide +kernel
theorem d_Mo_put_26 : decode prog_6_method_12_code 26 = .ok (.ldc2_w 101, 3) := by decide +kernel
theorem d_Mo_put_29 : decode prog_6_method_12_code 29 = .ok (.lcmp, 1) := by decide +kernel
theorem d_Mo_put_30 : decode prog_6_method_12_code 30 = .ok (.ifCond .ge 5, 3) := by decide +kernel
theorem d_Mo_put_33 : decode prog_6_method_12_code 33 = .ok (.iconst 0, 1) := by decide +kernel
theorem d_Mo_put_34 : decode prog_6_method_12_code 34 = .ok (.ireturn, 1) := by decide +kernel
theorem d_Mo_put_35 : decode prog_6_method_12_code 35 = .ok (.aload_n 0, 1) := by decide +kernel
theorem d_Mo_put_36 : decode prog_6_method_12_code 36 = .ok (.getfield 36, 3) := by decide +kernel
theorem d_Mo_put_39 : decode prog_6_method_12_code 39 = .ok (.aload_n 0, 1) := by decide +kernel
theorem d_Mo_put_40 : decode prog_6_method_12_code 40 = .ok (.getfield 96, 3) := by decide +kernel
theorem d_Mo_put_43 : decode prog_6_method_12_code 43 = .ok (.iload_n 1, 1) := by decide +kernel
theorem d_Mo_put_44 : decode prog_6_method_12_code 44 = .ok (.iastore, 1) := by decide +kernel
theorem d_Mo_put_45 : decode prog_6_method_12_code 45 = .ok (.aload_n 0, 1) := by decide +kernel
theorem d_Mo_put_46 : decode prog_6_method_12_code 46 = .ok (.getfield 39, 3) := by decide +kernel
theorem d_Mo_put_49 : decode prog_6_method_12_code 49 = .ok (.aload_n 0, 1) := by decide +kernel
theorem d_Mo_put_50 : decode prog_6_method_12_code 50 = .ok (.getfield 96, 3) := by decide +kernel
theorem d_Mo_put_53 : decode prog_6_method_12_code 53 = .ok (.iload_n 2, 1) := by decide +kernel
theorem d_Mo_put_54 : decode prog_6_method_12_code 54 = .ok (.iastore, 1) := by decide +kernel
theorem d_Mo_put_55 : decode prog_6_method_12_code 55 = .ok (.aload_n 0, 1) := by decide +kernel
theorem d_Mo_put_56 : decode prog_6_method_12_code 56 = .ok (.getfield 42, 3) := by decide +kernel
theorem d_Mo_put_59 : decode prog_6_method_12_code 59 = .ok (.aload_n 0, 1) := by decide +kernel
theorem d_Mo_put_60 : decode prog_6_method_12_code 60 = .ok (.getfield 96, 3) := by decide +kernel
theorem d_Mo_put_63 : decode prog_6_method_12_code 63 = .ok (.lload_n 3, 1) := by decide +kernel
theorem d_Mo_put_64 : decode prog_6_method_12_code 64 = .ok (.lastore, 1) := by decide +kernel
theorem d_Mo_put_65 : decode prog_6_method_12_code 65 = .ok (.aload_n 0, 1) := by decide +kernel
theorem d_Mo_put_66 : decode prog_6_method_12_code 66 = .ok (.dup, 1) := by decide +kernel
theorem d_Mo_put_67 : decode prog_6_method_12_code 67 = .ok (.getfield 96, 3) := by decide +kernel
theorem d_Mo_put_70 : decode prog_6_method_12_code 70 = .ok (.iconst 1, 1) := by decide +kernel
theorem d_Mo_put_71 : decode prog_6_method_12_code 71 = .ok (.iadd, 1) := by decide +kernel
theorem d_Mo_put_72 : decode prog_6_method_12_code 72 = .ok (.putfield 96, 3) := by decide +kernel
theorem d_Mo_put_75 : decode prog_6_method_12_code 75 = .ok (.iconst 1, 1) := by decide +kernel
theorem d_Mo_put_76 : decode prog_6_method_12_code 76 = .ok (.ireturn, 1) := by decide +kernel
theorem d_Mo_take_0 : decode prog_6_method_13_code 0 = .ok (.aload_n 0, 1) := by decide +kernel
theorem d_Mo_take_1 : decode prog_6_method_13_code 1 = .ok (.aload_n 0, 1) := by decide +kernel
theorem d_Mo_take_2 : decode prog_6_method_13_code 2 = .ok (.getfield 96, 3) := by decide +kernel
theorem d_Mo_take_5 : decode prog_6_method_13_code 5 = .ok (.putfield 69, 3) := by decide +kernel
theorem d_Mo_take_8 : decode prog_6_method_13_code 8 = .ok (.iconst 0, 1) := by decide +kernel
theorem d_Mo_take_9 : decode prog_6_method_13_code 9 = .ok (.istore_n 1, 1) := by decide +kernel
theorem d_Mo_take_10 : decode prog_6_method_13_code 10 = .ok (.iload_n 1, 1) := by decide +kernel
theorem d_Mo_take_11 : decode prog_6_method_13_code 11 = .ok (.aload_n 0, 1) := by decide +kernel
theorem d_Mo_take_12 : decode prog_6_method_13_code 12 = .ok (.getfield 96, 3) := by decide +kernel
theorem d_Mo_take_15 : decode prog_6_method_13_code 15 = .ok (.if_icmp .ge 45, 3) := by decide +kernel
theorem d_Mo_take_18 : decode prog_6_method_13_code 18 = .ok (.aload_n 0, 1) := by decide +kernel
theorem d_Mo_take_19 : decode prog_6_method_13_code 19 = .ok (.getfield 7, 3) := by decide +kernel
theorem d_Mo_take_22 : decode prog_6_method_13_code 22 = .ok (.iload_n 1, 1) := by decide +kernel
theorem d_Mo_take_23 : decode prog_6_method_13_code 23 = .ok (.aload_n 0, 1) := by decide +kernel
theorem d_Mo_take_24 : decode prog_6_method_13_code 24 = .ok (.getfield 36, 3) := by decide +kernel
theorem d_Mo_take_27 : decode prog_6_method_13_code 27 = .ok (.iload_n 1, 1) := by decide +kernel
theorem d_Mo_take_28 : decode prog_6_method_13_code 28 = .ok (.iaload, 1) := by decide +kernel
theorem d_Mo_take_29 : decode prog_6_method_13_code 29 = .ok (.iastore, 1) := by decide +kernel
theorem d_Mo_take_30 : decode prog_6_method_13_code 30 = .ok (.aload_n 0, 1) := by decide +kernel
theorem d_Mo_take_31 : decode prog_6_method_13_code 31 = .ok (.getfield 13, 3) := by decide +kernel
theorem d_Mo_take_34 : decode prog_6_method_13_code 34 = .ok (.iload_n 1, 1) := by decide +kernel
theorem d_Mo_take_35 : decode prog_6_method_13_code 35 = .ok (.aload_n 0, 1) := by decide +kernel
theorem d_Mo_take_36 : decode prog_6_method_13_code 36 = .ok (.getfield 39, 3) := by decide +kernel
theorem d_Mo_take_39 : decode prog_6_method_13_code 39 = .ok (.iload_n 1, 1) := by decide +kernel
theorem d_Mo_take_40 : decode prog_6_method_13_code 40 = .ok (.iaload, 1) := by decide +kernel
theorem d_Mo_take_41 : decode prog_6_method_13_code 41 = .ok (.iastore, 1) := by decide +kernel
theorem d_Mo_take_42 : decode prog_6_method_13_code 42 = .ok (.aload_n 0, 1) := by decide +kernel
theorem d_Mo_take_43 : decode prog_6_method_13_code 43 = .ok (.getfield 16, 3) := by decide +kernel
theorem d_Mo_take_46 : decode prog_6_method_13_code 46 = .ok (.iload_n 1, 1) := by decide +kernel
theorem d_Mo_take_47 : decode prog_6_method_13_code 47 = .ok (.aload_n 0, 1) := by decide +kernel
theorem d_Mo_take_48 : decode prog_6_method_13_code 48 = .ok (.getfield 42, 3) := by decide +kernel
theorem d_Mo_take_51 : decode prog_6_method_13_code 51 = .ok (.iload_n 1, 1) := by decide +kernel
theorem d_Mo_take_52 : decode prog_6_method_13_code 52 = .ok (.laload, 1) := by decide +kernel
theorem d_Mo_take_53 : decode prog_6_method_13_code 53 = .ok (.lastore, 1) := by decide +kernel
theorem d_Mo_take_54 : decode prog_6_method_13_code 54 = .ok (.iinc 1 1, 3) := by decide +kernel
theorem d_Mo_take_57 : decode prog_6_method_13_code 57 = .ok (.goto (-47), 3) := by decide +kernel
theorem d_Mo_take_60 : decode prog_6_method_13_code 60 = .ok (.aload_n 0, 1) := by decide +kernel
theorem d_Mo_take_61 : decode prog_6_method_13_code 61 = .ok (.iconst 0, 1) := by decide +kernel
theorem d_Mo_take_62 : decode prog_6_method_13_code 62 = .ok (.putfield 103, 3) := by decide +kernel
theorem d_Mo_take_65 : decode prog_6_method_13_code 65 = .ok (.aload_n 0, 1) := by decide +kernel
theorem d_Mo_take_66 : decode prog_6_method_13_code 66 = .ok (.getfield 69, 3) := by decide +kernel
theorem d_Mo_take_69 : decode prog_6_method_13_code 69 = .ok (.ireturn, 1) := by decide +kernel
theorem d_Mo_add_0 : decode prog_6_method_14_code 0 = .ok (.aload_n 0, 1) := by decide +kernel
theorem d_Mo_add_1 : decode prog_6_method_14_code 1 = .ok (.iconst 0, 1) := by decide +kernel
theorem d_Mo_add_2 : decode prog_6_method_14_code 2 = .ok (.putfield 58, 3) := by decide +kernel
theorem d_Mo_add_5 : decode prog_6_method_14_code 5 = .ok (.aload_n 0, 1) := by decide +kernel
theorem d_Mo_add_6 : decode prog_6_method_14_code 6 = .ok (.iload_n 1, 1) := by decide +kernel
theorem d_Mo_add_7 : decode prog_6_method_14_code 7 = .ok (.invokevirtual 107, 3) := by decide +kernel
theorem d_Mo_add_10 : decode prog_6_method_14_code 10 = .ok (.ifCond .eq 29, 3) := by decide +kernel
theorem d_Mo_add_13 : decode prog_6_method_14_code 13 = .ok (.aload_n 0, 1) := by decide +kernel
theorem d_Mo_add_14 : decode prog_6_method_14_code 14 = .ok (.iload_n 2, 1) := by decide +kernel
theorem d_Mo_add_15 : decode prog_6_method_14_code 15 = .ok (.invokevirtual 107, 3) := by decide +kernel
theorem d_Mo_add_18 : decode prog_6_method_14_code 18 = .ok (.ifCond .eq 21, 3) := by decide +kernel
theorem d_Mo_add_21 : decode prog_6_method_14_code 21 = .ok (.iload_n 3, 1) := by decide +kernel
theorem d_Mo_add_22 : decode prog_6_method_14_code 22 = .ok (.i2l, 1) := by decide +kernel
theorem d_Mo_add_23 : decode prog_6_method_14_code 23 = .ok (.ldc2_w 99, 3) := by decide +kernel
theorem d_Mo_add_26 : decode prog_6_method_14_code 26 = .ok (.lcmp, 1) := by decide +kernel
theorem d_Mo_add_27 : decode prog_6_method_14_code 27 = .ok (.ifCond .gt 12, 3) := by decide +kernel
theorem d_Mo_add_30 : decode prog_6_method_14_code 30 = .ok (.iload_n 3, 1) := by decide +kernel
theorem d_Mo_add_31 : decode prog_6_method_14_code 31 = .ok (.i2l, 1) := by decide +kernel
theorem d_Mo_add_32 : decode prog_6_method_14_code 32 = .ok (.ldc2_w 101, 3) := by decide +kernel
theorem d_Mo_add_35 : decode prog_6_method_14_code 35 = .ok (.lcmp, 1) := by decide +kernel
theorem d_Mo_add_36 : decode prog_6_method_14_code 36 = .ok (.ifCond .ge 5, 3) := by decide +kernel
theorem d_Mo_add_39 : decode prog_6_method_14_code 39 = .ok (.iconst (-1), 1) := by decide +kernel
theorem d_Mo_add_40 : decode prog_6_method_14_code 40 = .ok (.ireturn, 1) := by decide +kernel
theorem d_Mo_add_41 : decode prog_6_method_14_code 41 = .ok (.aload_n 0, 1) := by decide +kernel
theorem d_Mo_add_42 : decode prog_6_method_14_code 42 = .ok (.iconst 0, 1) := by decide +kernel
theorem d_Mo_add_43 : decode prog_6_method_14_code 43 = .ok (.putfield 96, 3) := by decide +kernel
theorem d_Mo_add_46 : decode prog_6_method_14_code 46 = .ok (.sipush 256, 3) := by decide +kernel
theorem d_Mo_add_49 : decode prog_6_method_14_code 49 = .ok (.iload_n 1, 1) := by decide +kernel
theorem d_Mo_add_50 : decode prog_6_method_14_code 50 = .ok (.imul, 1) := by decide +kernel
theorem d_Mo_add_51 : decode prog_6_method_14_code 51 = .ok (.iload_n 2, 1) := by decide +kernel
theorem d_Mo_add_52 : decode prog_6_method_14_code 52 = .ok (.iadd, 1) := by decide +kernel
theorem d_Mo_add_53 : decode prog_6_method_14_code 53 = .ok (.istore 4, 2) := by decide +kernel
theorem d_Mo_add_55 : decode prog_6_method_14_code 55 = .ok (.iconst 1, 1) := by decide +kernel
theorem d_Mo_add_56 : decode prog_6_method_14_code 56 = .ok (.istore 5, 2) := by decide +kernel
theorem d_Mo_add_58 : decode prog_6_method_14_code 58 = .ok (.iconst 0, 1) := by decide +kernel
theorem d_Mo_add_59 : decode prog_6_method_14_code 59 = .ok (.istore 6, 2) := by decide +kernel
theorem d_Mo_add_61 : decode prog_6_method_14_code 61 = .ok (.iconst 0, 1) := by decide +kernel
theorem d_Mo_add_62 : decode prog_6_method_14_code 62 = .ok (.istore 7, 2) := by decide +kernel
theorem d_Mo_add_64 : decode prog_6_method_14_code 64 = .ok (.iload 7, 2) := by decide +kernel
theorem d_Mo_add_66 : decode prog_6_method_14_code 66 = .ok (.aload_n 0, 1) := by decide +kernel
theorem d_Mo_add_67 : decode prog_6_method_14_code 67 = .ok (.getfield 69, 3) := by decide +kernel
theorem d_Mo_add_70 : decode prog_6_method_14_code 70 = .ok (.if_icmp .ge 134, 3) := by decide +kernel
theorem d_Mo_add_73 : decode prog_6_method_14_code 73 = .ok (.sipush 256, 3) := by decide +kernel
theorem d_Mo_add_76 : decode prog_6_method_14_code 76 = .ok (.aload_n 0, 1) := by decide +kernel
theorem d_Mo_add_77 : decode prog_6_method_14_code 77 = .ok (.getfield 7, 3) := by decide +kernel
theorem d_Mo_add_80 : decode prog_6_method_14_code 80 = .ok (.iload 7, 2) := by decide +kernel
theorem d_Mo_add_82 : decode prog_6_method_14_code 82 = .ok (.iaload, 1) := by decide +kernel
theorem d_Mo_add_83 : decode prog_6_method_14_code 83 = .ok (.imul, 1) := by decide +kernel
theorem d_Mo_add_84 : decode prog_6_method_14_code 84 = .ok (.aload_n 0, 1) := by decide +kernel
theorem d_Mo_add_85 : decode prog_6_method_14_code 85 = .ok (.getfield 13, 3) := by decide +kernel
theorem d_Mo_add_88 : decode prog_6_method_14_code 88 = .ok (.iload 7, 2) := by decide +kernel
theorem d_Mo_add_90 : decode prog_6_method_14_code 90 = .ok (.iaload, 1) := by decide +kernel
theorem d_Mo_add_91 : decode prog_6_method_14_code 91 = .ok (.iadd, 1) := by decide +kernel
theorem d_Mo_add_92 : decode prog_6_method_14_code 92 = .ok (.istore 8, 2) := by decide +kernel
theorem d_Mo_add_94 : decode prog_6_method_14_code 94 = .ok (.iload 6, 2) := by decide +kernel
theorem d_Mo_add_96 : decode prog_6_method_14_code 96 = .ok (.ifCond .ne 55, 3) := by decide +kernel
theorem d_Mo_add_99 : decode prog_6_method_14_code 99 = .ok (.iload 8, 2) := by decide +kernel
theorem d_Mo_add_101 : decode prog_6_method_14_code 101 = .ok (.iload 4, 2) := by decide +kernel
theorem d_Mo_add_103 : decode prog_6_method_14_code 103 = .ok (.if_icmp .lt 48, 3) := by decide +kernel
theorem d_Mo_add_106 : decode prog_6_method_14_code 106 = .ok (.iconst 1, 1) := by decide +kernel
theorem d_Mo_add_107 : decode prog_6_method_14_code 107 = .ok (.istore 6, 2) := by decide +kernel
theorem d_Mo_add_109 : decode prog_6_method_14_code 109 = .ok (.iload 5, 2) := by decide +kernel
theorem d_Mo_add_111 : decode prog_6_method_14_code 111 = .ok (.ifCond .eq 37, 3) := by decide +kernel
theorem d_Mo_add_114 : decode prog_6_method_14_code 114 = .ok (.aload_n 0, 1) := by decide +kernel
theorem d_Mo_add_115 : decode prog_6_method_14_code 115 = .ok (.iload_n 1, 1) := by decide +kernel
theorem d_Mo_add_116 : decode prog_6_method_14_code 116 = .ok (.iload_n 2, 1) := by decide +kernel
theorem d_Mo_add_117 : decode prog_6_method_14_code 117 = .ok (.iload_n 3, 1) := by decide +kernel
theorem d_Mo_add_118 : decode prog_6_method_14_code 118 = .ok (.i2l, 1) := by decide +kernel
theorem d_Mo_add_119 : decode prog_6_method_14_code 119 = .ok (.iload 8, 2) := by decide +kernel
theorem d_Mo_add_121 : decode prog_6_method_14_code 121 = .ok (.iload 4, 2) := by decide +kernel
theorem d_Mo_add_123 : decode prog_6_method_14_code 123 = .ok (.if_icmp .ne 13, 3) := by decide +kernel
theorem d_Mo_add_126 : decode prog_6_method_14_code 126 = .ok (.aload_n 0, 1) := by decide +kernel
theorem d_Mo_add_127 : decode prog_6_method_14_code 127 = .ok (.getfield 16, 3) := by decide +kernel
theorem d_Mo_add_130 : decode prog_6_method_14_code 130 = .ok (.iload 7, 2) := by decide +kernel
theorem d_Mo_add_132 : decode prog_6_method_14_code 132 = .ok (.laload, 1) := by decide +kernel
theorem d_Mo_add_133 : decode prog_6_method_14_code 133 = .ok (.goto 4, 3) := by decide +kernel
theorem d_Mo_add_136 : decode prog_6_method_14_code 136 = .ok (.lconst 0, 1) := by decide +kernel
theorem d_Mo_add_137 : decode prog_6_method_14_code 137 = .ok (.ladd, 1) := by decide +kernel
theorem d_Mo_add_138 : decode prog_6_method_14_code 138 = .ok (.invokevirtual 111, 3) := by decide +kernel
theorem d_Mo_add_141 : decode prog_6_method_14_code 141 = .ok (.ifCond .eq 7, 3) := by decide +kernel
theorem d_Mo_add_144 : decode prog_6_method_14_code 144 = .ok (.iconst 1, 1) := by decide +kernel
theorem d_Mo_add_145 : decode prog_6_method_14_code 145 = .ok (.goto 4, 3) := by decide +kernel
theorem d_Mo_add_148 : decode prog_6_method_14_code 148 = .ok (.iconst 0, 1) := by decide +kernel
theorem d_Mo_add_149 : decode prog_6_method_14_code 149 = .ok (.istore 5, 2) := by decide +kernel
theorem d_Mo_add_151 : decode prog_6_method_14_code 151 = .ok (.iload 8, 2) := by decide +kernel
theorem d_Mo_add_153 : decode prog_6_method_14_code 153 = .ok (.iload 4, 2) := by decide +kernel
theorem d_Mo_add_155 : decode prog_6_method_14_code 155 = .ok (.if_icmp .eq 43, 3) := by decide +kernel
theorem d_Mo_add_158 : decode prog_6_method_14_code 158 = .ok (.iload 5, 2) := by decide +kernel
theorem d_Mo_add_160 : decode prog_6_method_14_code 160 = .ok (.ifCond .eq 35, 3) := by decide +kernel
theorem d_Mo_add_163 : decode prog_6_method_14_code 163 = .ok (.aload_n 0, 1) := by decide +kernel
theorem d_Mo_add_164 : decode prog_6_method_14_code 164 = .ok (.aload_n 0, 1) := by decide +kernel
theorem d_Mo_add_165 : decode prog_6_method_14_code 165 = .ok (.getfield 7, 3) := by decide +kernel
theorem d_Mo_add_168 : decode prog_6_method_14_code 168 = .ok (.iload 7, 2) := by decide +kernel
theorem d_Mo_add_170 : decode prog_6_method_14_code 170 = .ok (.iaload, 1) := by decide +kernel
theorem d_Mo_add_171 : decode prog_6_method_14_code 171 = .ok (.aload_n 0, 1) := by decide +kernel
theorem d_Mo_add_172 : decode prog_6_method_14_code 172 = .ok (.getfield 13, 3) := by decide +kernel
theorem d_Mo_add_175 : decode prog_6_method_14_code 175 = .ok (.iload 7, 2) := by decide +kernel
theorem d_Mo_add_177 : decode prog_6_method_14_code 177 = .ok (.iaload, 1) := by decide +kernel
theorem d_Mo_add_178 : decode prog_6_method_14_code 178 = .ok (.aload_n 0, 1) := by decide +kernel
theorem d_Mo_add_179 : decode prog_6_method_14_code 179 = .ok (.getfield 16, 3) := by decide +kernel
theorem d_Mo_add_182 : decode prog_6_method_14_code 182 = .ok (.iload 7, 2) := by decide +kernel
theorem d_Mo_add_184 : decode prog_6_method_14_code 184 = .ok (.laload, 1) := by decide +kernel
theorem d_Mo_add_185 : decode prog_6_method_14_code 185 = .ok (.invokevirtual 111, 3) := by decide +kernel
theorem d_Mo_add_188 : decode prog_6_method_14_code 188 = .ok (.ifCond .eq 7, 3) := by decide +kernel
theorem d_Mo_add_191 : decode prog_6_method_14_code 191 = .ok (.iconst 1, 1) := by decide +kernel
theorem d_Mo_add_192 : decode prog_6_method_14_code 192 = .ok (.goto 4, 3) := by decide +kernel
theorem d_Mo_add_195 : decode prog_6_method_14_code 195 = .ok (.iconst 0, 1) := by decide +kernel
theorem d_Mo_add_196 : decode prog_6_method_14_code 196 = .ok (.istore 5, 2) := by decide +kernel
theorem d_Mo_add_198 : decode prog_6_method_14_code 198 = .ok (.iinc 7 1, 3) := by decide +kernel
theorem d_Mo_add_201 : decode prog_6_method_14_code 201 = .ok (.goto (-137), 3) := by decide +kernel
theorem d_Mo_add_204 : decode prog_6_method_14_code 204 = .ok (.iload 6, 2) := by decide +kernel
theorem d_Mo_add_206 : decode prog_6_method_14_code 206 = .ok (.ifCond .ne 26, 3) := by decide +kernel
theorem d_Mo_add_209 : decode prog_6_method_14_code 209 = .ok (.iload 5, 2) := by decide +kernel
theorem d_Mo_add_211 : decode prog_6_method_14_code 211 = .ok (.ifCond .eq 18, 3) := by decide +kernel
theorem d_Mo_add_214 : decode prog_6_method_14_code 214 = .ok (.aload_n 0, 1) := by decide +kernel
theorem d_Mo_add_215 : decode prog_6_method_14_code 215 = .ok (.iload_n 1, 1) := by decide +kernel
theorem d_Mo_add_216 : decode prog_6_method_14_code 216 = .ok (.iload_n 2, 1) := by decide +kernel
theorem d_Mo_add_217 : decode prog_6_method_14_code 217 = .ok (.iload_n 3, 1) := by decide +kernel
theorem d_Mo_add_218 : decode prog_6_method_14_code 218 = .ok (.i2l, 1) := by decide +kernel
theorem d_Mo_add_219 : decode prog_6_method_14_code 219 = .ok (.invokevirtual 111, 3) := by decide +kernel
theorem d_Mo_add_222 : decode prog_6_method_14_code 222 = .ok (.ifCond .eq 7, 3) := by decide +kernel
theorem d_Mo_add_225 : decode prog_6_method_14_code 225 = .ok (.iconst 1, 1) := by decide +kernel
theorem d_Mo_add_226 : decode prog_6_method_14_code 226 = .ok (.goto 4, 3) := by decide +kernel
theorem d_Mo_add_229 : decode prog_6_method_14_code 229 = .ok (.iconst 0, 1) := by decide +kernel
theorem d_Mo_add_230 : decode prog_6_method_14_code 230 = .ok (.istore 5, 2) := by decide +kernel
theorem d_Mo_add_232 : decode prog_6_method_14_code 232 = .ok (.iload 5, 2) := by decide +kernel
theorem d_Mo_add_234 : decode prog_6_method_14_code 234 = .ok (.ifCond .eq 10, 3) := by decide +kernel
theorem d_Mo_add_237 : decode prog_6_method_14_code 237 = .ok (.aload_n 0, 1) := by decide +kernel
theorem d_Mo_add_238 : decode prog_6_method_14_code 238 = .ok (.invokevirtual 115, 3) := by decide +kernel
theorem d_Mo_add_241 : decode prog_6_method_14_code 241 = .ok (.goto 4, 3) := by decide +kernel
theorem d_Mo_add_244 : decode prog_6_method_14_code 244 = .ok (.iconst (-1), 1) := by decide +kernel
theorem d_Mo_add_245 : decode prog_6_method_14_code 245 = .ok (.ireturn, 1) := by decide +kernel
theorem d_Mo_clear_0 : decode prog_6_method_18_code 0 = .ok (.aload_n 0, 1) := by decide +kernel
theorem d_Mo_clear_1 : decode prog_6_method_18_code 1 = .ok (.iconst 0, 1) := by decide +kernel
theorem d_Mo_clear_2 : decode prog_6_method_18_code 2 = .ok (.putfield 58, 3) := by decide +kernel
theorem d_Mo_clear_5 : decode prog_6_method_18_code 5 = .ok (.aload_n 0, 1) := by decide +kernel
theorem d_Mo_clear_6 : decode prog_6_method_18_code 6 = .ok (.iconst 0, 1) := by decide +kernel
theorem d_Mo_clear_7 : decode prog_6_method_18_code 7 = .ok (.putfield 96, 3) := by decide +kernel
theorem d_Mo_clear_10 : decode prog_6_method_18_code 10 = .ok (.aload_n 0, 1) := by decide +kernel
theorem d_Mo_clear_11 : decode prog_6_method_18_code 11 = .ok (.invokevirtual 115, 3) := by decide +kernel
theorem d_Mo_clear_14 : decode prog_6_method_18_code 14 = .ok (.pop, 1) := by decide +kernel
theorem d_Mo_clear_15 : decode prog_6_method_18_code 15 = .ok (.return_, 1) := by decide +kernel
theorem d_Mo_product_0 : decode prog_6_method_19_code 0 = .ok (.aload_n 0, 1) := by decide +kernel
theorem d_Mo_product_1 : decode prog_6_method_19_code 1 = .ok (.iconst 0, 1) := by decide +kernel
theorem d_Mo_product_2 : decode prog_6_method_19_code 2 = .ok (.putfield 58, 3) := by decide +kernel
theorem d_Mo_product_5 : decode prog_6_method_19_code 5 = .ok (.iload_n 1, 1) := by decide +kernel
theorem d_Mo_product_6 : decode prog_6_method_19_code 6 = .ok (.ifCond .lt 20, 3) := by decide +kernel
theorem d_Mo_product_9 : decode prog_6_method_19_code 9 = .ok (.iload_n 1, 1) := by decide +kernel
theorem d_Mo_product_10 : decode prog_6_method_19_code 10 = .ok (.aload_n 0, 1) := by decide +kernel
theorem d_Mo_product_11 : decode prog_6_method_19_code 11 = .ok (.getfield 69, 3) := by decide +kernel
theorem d_Mo_product_14 : decode prog_6_method_19_code 14 = .ok (.if_icmp .ge 12, 3) := by decide +kernel
theorem d_Mo_product_17 : decode prog_6_method_19_code 17 = .ok (.iload_n 2, 1) := by decide +kernel
theorem d_Mo_product_18 : decode prog_6_method_19_code 18 = .ok (.ifCond .lt 8, 3) := by decide +kernel
theorem d_Mo_product_21 : decode prog_6_method_19_code 21 = .ok (.iload_n 2, 1) := by decide +kernel
theorem d_Mo_product_22 : decode prog_6_method_19_code 22 = .ok (.iconst 2, 1) := by decide +kernel
theorem d_Mo_product_23 : decode prog_6_method_19_code 23 = .ok (.if_icmp .le 8, 3) := by decide +kernel
theorem d_Mo_product_26 : decode prog_6_method_19_code 26 = .ok (.aload_n 0, 1) := by decide +kernel
theorem d_Mo_product_27 : decode prog_6_method_19_code 27 = .ok (.invokevirtual 129, 3) := by decide +kernel
theorem d_Mo_product_30 : decode prog_6_method_19_code 30 = .ok (.ireturn, 1) := by decide +kernel
theorem d_Mo_product_31 : decode prog_6_method_19_code 31 = .ok (.iload_n 2, 1) := by decide +kernel
theorem d_Mo_product_32 : decode prog_6_method_19_code 32 = .ok (.ifCond .ne 12, 3) := by decide +kernel
theorem d_Mo_product_35 : decode prog_6_method_19_code 35 = .ok (.aload_n 0, 1) := by decide +kernel
theorem d_Mo_product_36 : decode prog_6_method_19_code 36 = .ok (.getfield 7, 3) := by decide +kernel
theorem d_Mo_product_39 : decode prog_6_method_19_code 39 = .ok (.iload_n 1, 1) := by decide +kernel
theorem d_Mo_product_40 : decode prog_6_method_19_code 40 = .ok (.iaload, 1) := by decide +kernel
theorem d_Mo_product_41 : decode prog_6_method_19_code 41 = .ok (.goto 24, 3) := by decide +kernel
theorem d_Mo_product_44 : decode prog_6_method_19_code 44 = .ok (.iload_n 2, 1) := by decide +kernel
theorem d_Mo_product_45 : decode prog_6_method_19_code 45 = .ok (.iconst 1, 1) := by decide +kernel
theorem d_Mo_product_46 : decode prog_6_method_19_code 46 = .ok (.if_icmp .ne 12, 3) := by decide +kernel
theorem d_Mo_product_49 : decode prog_6_method_19_code 49 = .ok (.aload_n 0, 1) := by decide +kernel
theorem d_Mo_product_50 : decode prog_6_method_19_code 50 = .ok (.getfield 13, 3) := by decide +kernel
theorem d_Mo_product_53 : decode prog_6_method_19_code 53 = .ok (.iload_n 1, 1) := by decide +kernel
theorem d_Mo_product_54 : decode prog_6_method_19_code 54 = .ok (.iaload, 1) := by decide +kernel
theorem d_Mo_product_55 : decode prog_6_method_19_code 55 = .ok (.goto 10, 3) := by decide +kernel
theorem d_Mo_product_58 : decode prog_6_method_19_code 58 = .ok (.aload_n 0, 1) := by decide +kernel
theorem d_Mo_product_59 : decode prog_6_method_19_code 59 = .ok (.getfield 16, 3) := by decide +kernel
theorem d_Mo_product_62 : decode prog_6_method_19_code 62 = .ok (.iload_n 1, 1) := by decide +kernel
theorem d_Mo_product_63 : decode prog_6_method_19_code 63 = .ok (.laload, 1) := by decide +kernel
theorem d_Mo_product_64 : decode prog_6_method_19_code 64 = .ok (.l2i, 1) := by decide +kernel
theorem d_Mo_product_65 : decode prog_6_method_19_code 65 = .ok (.ireturn, 1) := by decide +kernel
theorem d_Mo_climb_0 : decode prog_6_method_9_code 0 = .ok (.aload_n 0, 1) := by decide +kernel
theorem d_Mo_climb_1 : decode prog_6_method_9_code 1 = .ok (.getfield 78, 3) := by decide +kernel
theorem d_Mo_climb_4 : decode prog_6_method_9_code 4 = .ok (.iload_n 1, 1) := by decide +kernel
theorem d_Mo_climb_5 : decode prog_6_method_9_code 5 = .ok (.ishr, 1) := by decide +kernel
theorem d_Mo_climb_6 : decode prog_6_method_9_code 6 = .ok (.iconst 1, 1) := by decide +kernel
theorem d_Mo_climb_7 : decode prog_6_method_9_code 7 = .ok (.iand, 1) := by decide +kernel
theorem d_Mo_climb_8 : decode prog_6_method_9_code 8 = .ok (.iload_n 2, 1) := by decide +kernel
theorem d_Mo_climb_9 : decode prog_6_method_9_code 9 = .ok (.ifCond .eq 7, 3) := by decide +kernel
theorem d_Mo_climb_12 : decode prog_6_method_9_code 12 = .ok (.iconst 1, 1) := by decide +kernel
theorem d_Mo_climb_13 : decode prog_6_method_9_code 13 = .ok (.goto 4, 3) := by decide +kernel
theorem d_Mo_climb_16 : decode prog_6_method_9_code 16 = .ok (.iconst 0, 1) := by decide +kernel
theorem d_Mo_climb_17 : decode prog_6_method_9_code 17 = .ok (.if_icmp .ne 5, 3) := by decide +kernel
theorem d_Mo_climb_20 : decode prog_6_method_9_code 20 = .ok (.iconst 0, 1) := by decide +kernel
theorem d_Mo_climb_21 : decode prog_6_method_9_code 21 = .ok (.ireturn, 1) := by decide +kernel
theorem d_Mo_climb_22 : decode prog_6_method_9_code 22 = .ok (.aload_n 0, 1) := by decide +kernel
theorem d_Mo_climb_23 : decode prog_6_method_9_code 23 = .ok (.getfield 78, 3) := by decide +kernel
theorem d_Mo_climb_26 : decode prog_6_method_9_code 26 = .ok (.iconst 1, 1) := by decide +kernel
theorem d_Mo_climb_27 : decode prog_6_method_9_code 27 = .ok (.iload_n 1, 1) := by decide +kernel
theorem d_Mo_climb_28 : decode prog_6_method_9_code 28 = .ok (.ishl, 1) := by decide +kernel
theorem d_Mo_climb_29 : decode prog_6_method_9_code 29 = .ok (.iconst 1, 1) := by decide +kernel
theorem d_Mo_climb_30 : decode prog_6_method_9_code 30 = .ok (.isub, 1) := by decide +kernel
theorem d_Mo_climb_31 : decode prog_6_method_9_code 31 = .ok (.iand, 1) := by decide +kernel
theorem d_Mo_climb_32 : decode prog_6_method_9_code 32 = .ok (.invokestatic 81, 3) := by decide +kernel
theorem d_Mo_climb_35 : decode prog_6_method_9_code 35 = .ok (.iconst 2, 1) := by decide +kernel
theorem d_Mo_climb_36 : decode prog_6_method_9_code 36 = .ok (.irem, 1) := by decide +kernel
theorem d_Mo_climb_37 : decode prog_6_method_9_code 37 = .ok (.iconst 1, 1) := by decide +kernel
theorem d_Mo_climb_38 : decode prog_6_method_9_code 38 = .ok (.if_icmp .ne 12, 3) := by decide +kernel
theorem d_Mo_climb_41 : decode prog_6_method_9_code 41 = .ok (.aload_n 0, 1) := by decide +kernel
theorem d_Mo_climb_42 : decode prog_6_method_9_code 42 = .ok (.aload_n 0, 1) := by decide +kernel
theorem d_Mo_climb_43 : decode prog_6_method_9_code 43 = .ok (.getfield 85, 3) := by decide +kernel
theorem d_Mo_climb_46 : decode prog_6_method_9_code 46 = .ok (.ineg, 1) := by decide +kernel
theorem d_Mo_climb_47 : decode prog_6_method_9_code 47 = .ok (.putfield 85, 3) := by decide +kernel
theorem d_Mo_climb_50 : decode prog_6_method_9_code 50 = .ok (.aload_n 0, 1) := by decide +kernel
theorem d_Mo_climb_51 : decode prog_6_method_9_code 51 = .ok (.dup, 1) := by decide +kernel
theorem d_Mo_climb_52 : decode prog_6_method_9_code 52 = .ok (.getfield 78, 3) := by decide +kernel
theorem d_Mo_climb_55 : decode prog_6_method_9_code 55 = .ok (.iconst 1, 1) := by decide +kernel
theorem d_Mo_climb_56 : decode prog_6_method_9_code 56 = .ok (.iload_n 1, 1) := by decide +kernel
theorem d_Mo_climb_57 : decode prog_6_method_9_code 57 = .ok (.ishl, 1) := by decide +kernel
theorem d_Mo_climb_58 : decode prog_6_method_9_code 58 = .ok (.ixor, 1) := by decide +kernel
theorem d_Mo_climb_59 : decode prog_6_method_9_code 59 = .ok (.putfield 78, 3) := by decide +kernel
theorem d_Mo_climb_62 : decode prog_6_method_9_code 62 = .ok (.iconst 1, 1) := by decide +kernel
theorem d_Mo_climb_63 : decode prog_6_method_9_code 63 = .ok (.ireturn, 1) := by decide +kernel
theorem d_Mo_make_0 : decode prog_6_method_10_code 0 = .ok (.aload_n 0, 1) := by decide +kernel
theorem d_Mo_make_1 : decode prog_6_method_10_code 1 = .ok (.iload_n 3, 1) := by decide +kernel
theorem d_Mo_make_2 : decode prog_6_method_10_code 2 = .ok (.putfield 78, 3) := by decide +kernel
theorem d_Mo_make_5 : decode prog_6_method_10_code 5 = .ok (.aload_n 0, 1) := by decide +kernel
theorem d_Mo_make_6 : decode prog_6_method_10_code 6 = .ok (.iconst 1, 1) := by decide +kernel
theorem d_Mo_make_7 : decode prog_6_method_10_code 7 = .ok (.putfield 85, 3) := by decide +kernel
theorem d_Mo_make_10 : decode prog_6_method_10_code 10 = .ok (.iconst 1, 1) := by decide +kernel
theorem d_Mo_make_11 : decode prog_6_method_10_code 11 = .ok (.istore 4, 2) := by decide +kernel
theorem d_Mo_make_13 : decode prog_6_method_10_code 13 = .ok (.bipush 7, 2) := by decide +kernel
theorem d_Mo_make_15 : decode prog_6_method_10_code 15 = .ok (.istore 5, 2) := by decide +kernel
theorem d_Mo_make_17 : decode prog_6_method_10_code 17 = .ok (.iload 5, 2) := by decide +kernel
theorem d_Mo_make_19 : decode prog_6_method_10_code 19 = .ok (.ifCond .lt 41, 3) := by decide +kernel
theorem d_Mo_make_22 : decode prog_6_method_10_code 22 = .ok (.iload_n 2, 1) := by decide +kernel
theorem d_Mo_make_23 : decode prog_6_method_10_code 23 = .ok (.iload 5, 2) := by decide +kernel
theorem d_Mo_make_25 : decode prog_6_method_10_code 25 = .ok (.ishr, 1) := by decide +kernel
theorem d_Mo_make_26 : decode prog_6_method_10_code 26 = .ok (.iconst 1, 1) := by decide +kernel
theorem d_Mo_make_27 : decode prog_6_method_10_code 27 = .ok (.iand, 1) := by decide +kernel
theorem d_Mo_make_28 : decode prog_6_method_10_code 28 = .ok (.iconst 1, 1) := by decide +kernel
theorem d_Mo_make_29 : decode prog_6_method_10_code 29 = .ok (.if_icmp .ne 25, 3) := by decide +kernel
theorem d_Mo_make_32 : decode prog_6_method_10_code 32 = .ok (.iload 4, 2) := by decide +kernel
theorem d_Mo_make_34 : decode prog_6_method_10_code 34 = .ok (.ifCond .eq 17, 3) := by decide +kernel
theorem d_Mo_make_37 : decode prog_6_method_10_code 37 = .ok (.aload_n 0, 1) := by decide +kernel
theorem d_Mo_make_38 : decode prog_6_method_10_code 38 = .ok (.iload 5, 2) := by decide +kernel
theorem d_Mo_make_40 : decode prog_6_method_10_code 40 = .ok (.iconst 0, 1) := by decide +kernel
theorem d_Mo_make_41 : decode prog_6_method_10_code 41 = .ok (.invokevirtual 88, 3) := by decide +kernel
theorem d_Mo_make_44 : decode prog_6_method_10_code 44 = .ok (.ifCond .eq 7, 3) := by decide +kernel
theorem d_Mo_make_47 : decode prog_6_method_10_code 47 = .ok (.iconst 1, 1) := by decide +kernel
theorem d_Mo_make_48 : decode prog_6_method_10_code 48 = .ok (.goto 4, 3) := by decide +kernel
theorem d_Mo_make_51 : decode prog_6_method_10_code 51 = .ok (.iconst 0, 1) := by decide +kernel
theorem d_Mo_make_52 : decode prog_6_method_10_code 52 = .ok (.istore 4, 2) := by decide +kernel
theorem d_Mo_make_54 : decode prog_6_method_10_code 54 = .ok (.iinc 5 (-1), 3) := by decide +kernel
theorem d_Mo_make_57 : decode prog_6_method_10_code 57 = .ok (.goto (-40), 3) := by decide +kernel
theorem d_Mo_make_60 : decode prog_6_method_10_code 60 = .ok (.bipush 7, 2) := by decide +kernel
theorem d_Mo_make_62 : decode prog_6_method_10_code 62 = .ok (.istore 5, 2) := by decide +kernel
theorem d_Mo_make_64 : decode prog_6_method_10_code 64 = .ok (.iload 5, 2) := by decide +kernel
theorem d_Mo_make_66 : decode prog_6_method_10_code 66 = .ok (.ifCond .lt 41, 3) := by decide +kernel
theorem d_Mo_make_69 : decode prog_6_method_10_code 69 = .ok (.iload_n 1, 1) := by decide +kernel
theorem d_Mo_make_70 : decode prog_6_method_10_code 70 = .ok (.iload 5, 2) := by decide +kernel
theorem d_Mo_make_72 : decode prog_6_method_10_code 72 = .ok (.ishr, 1) := by decide +kernel
theorem d_Mo_make_73 : decode prog_6_method_10_code 73 = .ok (.iconst 1, 1) := by decide +kernel
theorem d_Mo_make_74 : decode prog_6_method_10_code 74 = .ok (.iand, 1) := by decide +kernel
theorem d_Mo_make_75 : decode prog_6_method_10_code 75 = .ok (.iconst 1, 1) := by decide +kernel
theorem d_Mo_make_76 : decode prog_6_method_10_code 76 = .ok (.if_icmp .ne 25, 3) := by decide +kernel
theorem d_Mo_make_79 : decode prog_6_method_10_code 79 = .ok (.iload 4, 2) := by decide +kernel
theorem d_Mo_make_81 : decode prog_6_method_10_code 81 = .ok (.ifCond .eq 17, 3) := by decide +kernel
theorem d_Mo_make_84 : decode prog_6_method_10_code 84 = .ok (.aload_n 0, 1) := by decide +kernel
theorem d_Mo_make_85 : decode prog_6_method_10_code 85 = .ok (.iload 5, 2) := by decide +kernel
theorem d_Mo_make_87 : decode prog_6_method_10_code 87 = .ok (.iconst 1, 1) := by decide +kernel
theorem d_Mo_make_88 : decode prog_6_method_10_code 88 = .ok (.invokevirtual 88, 3) := by decide +kernel
theorem d_Mo_make_91 : decode prog_6_method_10_code 91 = .ok (.ifCond .eq 7, 3) := by decide +kernel
theorem d_Mo_make_94 : decode prog_6_method_10_code 94 = .ok (.iconst 1, 1) := by decide +kernel
theorem d_Mo_make_95 : decode prog_6_method_10_code 95 = .ok (.goto 4, 3) := by decide +kernel
theorem d_Mo_make_98 : decode prog_6_method_10_code 98 = .ok (.iconst 0, 1) := by decide +kernel
theorem d_Mo_make_99 : decode prog_6_method_10_code 99 = .ok (.istore 4, 2) := by decide +kernel
theorem d_Mo_make_101 : decode prog_6_method_10_code 101 = .ok (.iinc 5 (-1), 3) := by decide +kernel
theorem d_Mo_make_104 : decode prog_6_method_10_code 104 = .ok (.goto (-40), 3) := by decide +kernel
theorem d_Mo_make_107 : decode prog_6_method_10_code 107 = .ok (.iload 4, 2) := by decide +kernel
theorem d_Mo_make_109 : decode prog_6_method_10_code 109 = .ok (.ireturn, 1) := by decide +kernel
theorem d_Mo_makes_0 : decode prog_6_method_20_code 0 = .ok (.aload_n 0, 1) := by decide +kernel
theorem d_Mo_makes_1 : decode prog_6_method_20_code 1 = .ok (.iconst 0, 1) := by decide +kernel
theorem d_Mo_makes_2 : decode prog_6_method_20_code 2 = .ok (.putfield 58, 3) := by decide +kernel
theorem d_Mo_makes_5 : decode prog_6_method_20_code 5 = .ok (.aload_n 0, 1) := by decide +kernel
theorem d_Mo_makes_6 : decode prog_6_method_20_code 6 = .ok (.iload_n 1, 1) := by decide +kernel
theorem d_Mo_makes_7 : decode prog_6_method_20_code 7 = .ok (.invokevirtual 107, 3) := by decide +kernel
theorem d_Mo_makes_10 : decode prog_6_method_20_code 10 = .ok (.ifCond .eq 11, 3) := by decide +kernel
theorem d_Mo_makes_13 : decode prog_6_method_20_code 13 = .ok (.aload_n 0, 1) := by decide +kernel
theorem d_Mo_makes_14 : decode prog_6_method_20_code 14 = .ok (.iload_n 2, 1) := by decide +kernel
theorem d_Mo_makes_15 : decode prog_6_method_20_code 15 = .ok (.invokevirtual 107, 3) := by decide +kernel
theorem d_Mo_makes_18 : decode prog_6_method_20_code 18 = .ok (.ifCond .ne 9, 3) := by decide +kernel
theorem d_Mo_makes_21 : decode prog_6_method_20_code 21 = .ok (.aload_n 0, 1) := by decide +kernel
theorem d_Mo_makes_22 : decode prog_6_method_20_code 22 = .ok (.invokevirtual 129, 3) := by decide +kernel
theorem d_Mo_makes_25 : decode prog_6_method_20_code 25 = .ok (.i2l, 1) := by decide +kernel
theorem d_Mo_makes_26 : decode prog_6_method_20_code 26 = .ok (.lreturn, 1) := by decide +kernel
theorem d_Mo_makes_27 : decode prog_6_method_20_code 27 = .ok (.lconst 0, 1) := by decide +kernel
theorem d_Mo_makes_28 : decode prog_6_method_20_code 28 = .ok (.lstore_n 3, 1) := by decide +kernel
theorem d_Mo_makes_29 : decode prog_6_method_20_code 29 = .ok (.iconst 0, 1) := by decide +kernel
theorem d_Mo_makes_30 : decode prog_6_method_20_code 30 = .ok (.istore 5, 2) := by decide +kernel
theorem d_Mo_makes_32 : decode prog_6_method_20_code 32 = .ok (.iload 5, 2) := by decide +kernel
theorem d_Mo_makes_34 : decode prog_6_method_20_code 34 = .ok (.aload_n 0, 1) := by decide +kernel
theorem d_Mo_makes_35 : decode prog_6_method_20_code 35 = .ok (.getfield 69, 3) := by decide +kernel
theorem d_Mo_makes_38 : decode prog_6_method_20_code 38 = .ok (.if_icmp .ge 55, 3) := by decide +kernel
theorem d_Mo_makes_41 : decode prog_6_method_20_code 41 = .ok (.aload_n 0, 1) := by decide +kernel
theorem d_Mo_makes_42 : decode prog_6_method_20_code 42 = .ok (.aload_n 0, 1) := by decide +kernel
theorem d_Mo_makes_43 : decode prog_6_method_20_code 43 = .ok (.getfield 7, 3) := by decide +kernel
theorem d_Mo_makes_46 : decode prog_6_method_20_code 46 = .ok (.iload 5, 2) := by decide +kernel
theorem d_Mo_makes_48 : decode prog_6_method_20_code 48 = .ok (.iaload, 1) := by decide +kernel
theorem d_Mo_makes_49 : decode prog_6_method_20_code 49 = .ok (.aload_n 0, 1) := by decide +kernel
theorem d_Mo_makes_50 : decode prog_6_method_20_code 50 = .ok (.getfield 13, 3) := by decide +kernel
theorem d_Mo_makes_53 : decode prog_6_method_20_code 53 = .ok (.iload 5, 2) := by decide +kernel
theorem d_Mo_makes_55 : decode prog_6_method_20_code 55 = .ok (.iaload, 1) := by decide +kernel
theorem d_Mo_makes_56 : decode prog_6_method_20_code 56 = .ok (.iload_n 1, 1) := by decide +kernel
theorem d_Mo_makes_57 : decode prog_6_method_20_code 57 = .ok (.invokevirtual 92, 3) := by decide +kernel
theorem d_Mo_makes_60 : decode prog_6_method_20_code 60 = .ok (.ifCond .eq 27, 3) := by decide +kernel
theorem d_Mo_makes_63 : decode prog_6_method_20_code 63 = .ok (.aload_n 0, 1) := by decide +kernel
theorem d_Mo_makes_64 : decode prog_6_method_20_code 64 = .ok (.getfield 78, 3) := by decide +kernel
theorem d_Mo_makes_67 : decode prog_6_method_20_code 67 = .ok (.iload_n 2, 1) := by decide +kernel
theorem d_Mo_makes_68 : decode prog_6_method_20_code 68 = .ok (.if_icmp .ne 19, 3) := by decide +kernel
theorem d_Mo_makes_71 : decode prog_6_method_20_code 71 = .ok (.lload_n 3, 1) := by decide +kernel
theorem d_Mo_makes_72 : decode prog_6_method_20_code 72 = .ok (.aload_n 0, 1) := by decide +kernel
theorem d_Mo_makes_73 : decode prog_6_method_20_code 73 = .ok (.getfield 85, 3) := by decide +kernel
theorem d_Mo_makes_76 : decode prog_6_method_20_code 76 = .ok (.i2l, 1) := by decide +kernel
theorem d_Mo_makes_77 : decode prog_6_method_20_code 77 = .ok (.aload_n 0, 1) := by decide +kernel
theorem d_Mo_makes_78 : decode prog_6_method_20_code 78 = .ok (.getfield 16, 3) := by decide +kernel
theorem d_Mo_makes_81 : decode prog_6_method_20_code 81 = .ok (.iload 5, 2) := by decide +kernel
theorem d_Mo_makes_83 : decode prog_6_method_20_code 83 = .ok (.laload, 1) := by decide +kernel
theorem d_Mo_makes_84 : decode prog_6_method_20_code 84 = .ok (.lmul, 1) := by decide +kernel
theorem d_Mo_makes_85 : decode prog_6_method_20_code 85 = .ok (.ladd, 1) := by decide +kernel
theorem d_Mo_makes_86 : decode prog_6_method_20_code 86 = .ok (.lstore_n 3, 1) := by decide +kernel
theorem d_Mo_makes_87 : decode prog_6_method_20_code 87 = .ok (.iinc 5 1, 3) := by decide +kernel
theorem d_Mo_makes_90 : decode prog_6_method_20_code 90 = .ok (.goto (-58), 3) := by decide +kernel
theorem d_Mo_makes_93 : decode prog_6_method_20_code 93 = .ok (.lload_n 3, 1) := by decide +kernel
theorem d_Mo_makes_94 : decode prog_6_method_20_code 94 = .ok (.lreturn, 1) := by decide +kernel
theorem d_Mo_way_0 : decode prog_6_method_24_code 0 = .ok (.aload_n 0, 1) := by decide +kernel
theorem d_Mo_way_1 : decode prog_6_method_24_code 1 = .ok (.iconst 0, 1) := by decide +kernel
theorem d_Mo_way_2 : decode prog_6_method_24_code 2 = .ok (.putfield 58, 3) := by decide +kernel
theorem d_Mo_way_5 : decode prog_6_method_24_code 5 = .ok (.iload_n 1, 1) := by decide +kernel
theorem d_Mo_way_6 : decode prog_6_method_24_code 6 = .ok (.ifCond .lt 8, 3) := by decide +kernel
theorem d_Mo_way_9 : decode prog_6_method_24_code 9 = .ok (.iload_n 1, 1) := by decide +kernel
theorem d_Mo_way_10 : decode prog_6_method_24_code 10 = .ok (.iconst 3, 1) := by decide +kernel
theorem d_Mo_way_11 : decode prog_6_method_24_code 11 = .ok (.if_icmp .le 5, 3) := by decide +kernel
theorem d_Mo_way_14 : decode prog_6_method_24_code 14 = .ok (.iconst 0, 1) := by decide +kernel
theorem d_Mo_way_15 : decode prog_6_method_24_code 15 = .ok (.ireturn, 1) := by decide +kernel
theorem d_Mo_way_16 : decode prog_6_method_24_code 16 = .ok (.iconst 1, 1) := by decide +kernel
theorem d_Mo_way_17 : decode prog_6_method_24_code 17 = .ok (.istore_n 2, 1) := by decide +kernel
theorem d_Mo_way_18 : decode prog_6_method_24_code 18 = .ok (.iload_n 2, 1) := by decide +kernel
theorem d_Mo_way_19 : decode prog_6_method_24_code 19 = .ok (.aload_n 0, 1) := by decide +kernel
theorem d_Mo_way_20 : decode prog_6_method_24_code 20 = .ok (.invokevirtual 65, 3) := by decide +kernel
theorem d_Mo_way_23 : decode prog_6_method_24_code 23 = .ok (.if_icmp .ge 20, 3) := by decide +kernel
theorem d_Mo_way_26 : decode prog_6_method_24_code 26 = .ok (.aload_n 0, 1) := by decide +kernel
theorem d_Mo_way_27 : decode prog_6_method_24_code 27 = .ok (.iload_n 1, 1) := by decide +kernel
theorem d_Mo_way_28 : decode prog_6_method_24_code 28 = .ok (.iload_n 2, 1) := by decide +kernel
theorem d_Mo_way_29 : decode prog_6_method_24_code 29 = .ok (.invokevirtual 136, 3) := by decide +kernel
theorem d_Mo_way_32 : decode prog_6_method_24_code 32 = .ok (.ifCond .ne 5, 3) := by decide +kernel
theorem d_Mo_way_35 : decode prog_6_method_24_code 35 = .ok (.iconst 0, 1) := by decide +kernel
theorem d_Mo_way_36 : decode prog_6_method_24_code 36 = .ok (.ireturn, 1) := by decide +kernel
theorem d_Mo_way_37 : decode prog_6_method_24_code 37 = .ok (.iinc 2 1, 3) := by decide +kernel
theorem d_Mo_way_40 : decode prog_6_method_24_code 40 = .ok (.goto (-22), 3) := by decide +kernel
theorem d_Mo_way_43 : decode prog_6_method_24_code 43 = .ok (.aload_n 0, 1) := by decide +kernel
theorem d_Mo_way_44 : decode prog_6_method_24_code 44 = .ok (.iload_n 1, 1) := by decide +kernel
theorem d_Mo_way_45 : decode prog_6_method_24_code 45 = .ok (.putfield 72, 3) := by decide +kernel
theorem d_Mo_way_48 : decode prog_6_method_24_code 48 = .ok (.aload_n 0, 1) := by decide +kernel
theorem d_Mo_way_49 : decode prog_6_method_24_code 49 = .ok (.invokevirtual 75, 3) := by decide +kernel
theorem d_Mo_way_52 : decode prog_6_method_24_code 52 = .ok (.iconst 1, 1) := by decide +kernel
theorem d_Mo_way_53 : decode prog_6_method_24_code 53 = .ok (.ireturn, 1) := by decide +kernel
theorem d_Mo_row_0 : decode prog_6_method_25_code 0 = .ok (.aload_n 0, 1) := by decide +kernel
theorem d_Mo_row_1 : decode prog_6_method_25_code 1 = .ok (.iconst 0, 1) := by decide +kernel
theorem d_Mo_row_2 : decode prog_6_method_25_code 2 = .ok (.putfield 58, 3) := by decide +kernel
theorem d_Mo_row_5 : decode prog_6_method_25_code 5 = .ok (.iload_n 1, 1) := by decide +kernel
theorem d_Mo_row_6 : decode prog_6_method_25_code 6 = .ok (.ifCond .lt 27, 3) := by decide +kernel
theorem d_Mo_row_9 : decode prog_6_method_25_code 9 = .ok (.iload_n 1, 1) := by decide +kernel
theorem d_Mo_row_10 : decode prog_6_method_25_code 10 = .ok (.aload_n 0, 1) := by decide +kernel
theorem d_Mo_row_11 : decode prog_6_method_25_code 11 = .ok (.getfield 62, 3) := by decide +kernel
theorem d_Mo_row_14 : decode prog_6_method_25_code 14 = .ok (.if_icmp .ge 19, 3) := by decide +kernel
theorem d_Mo_row_17 : decode prog_6_method_25_code 17 = .ok (.aload_n 0, 1) := by decide +kernel
theorem d_Mo_row_18 : decode prog_6_method_25_code 18 = .ok (.iload_n 2, 1) := by decide +kernel
theorem d_Mo_row_19 : decode prog_6_method_25_code 19 = .ok (.invokevirtual 107, 3) := by decide +kernel
theorem d_Mo_row_22 : decode prog_6_method_25_code 22 = .ok (.ifCond .eq 11, 3) := by decide +kernel
theorem d_Mo_row_25 : decode prog_6_method_25_code 25 = .ok (.aload_n 0, 1) := by decide +kernel
theorem d_Mo_row_26 : decode prog_6_method_25_code 26 = .ok (.getfield 72, 3) := by decide +kernel
theorem d_Mo_row_29 : decode prog_6_method_25_code 29 = .ok (.iconst 3, 1) := by decide +kernel
theorem d_Mo_row_30 : decode prog_6_method_25_code 30 = .ok (.if_icmp .ne 5, 3) := by decide +kernel
theorem d_Mo_row_33 : decode prog_6_method_25_code 33 = .ok (.iconst 0, 1) := by decide +kernel
theorem d_Mo_row_34 : decode prog_6_method_25_code 34 = .ok (.ireturn, 1) := by decide +kernel
theorem d_Mo_row_35 : decode prog_6_method_25_code 35 = .ok (.aload_n 0, 1) := by decide +kernel
theorem d_Mo_row_36 : decode prog_6_method_25_code 36 = .ok (.getfield 20, 3) := by decide +kernel
theorem d_Mo_row_39 : decode prog_6_method_25_code 39 = .ok (.iload_n 1, 1) := by decide +kernel
theorem d_Mo_row_40 : decode prog_6_method_25_code 40 = .ok (.iload_n 2, 1) := by decide +kernel
theorem d_Mo_row_41 : decode prog_6_method_25_code 41 = .ok (.iastore, 1) := by decide +kernel
theorem d_Mo_row_42 : decode prog_6_method_25_code 42 = .ok (.iconst 1, 1) := by decide +kernel
theorem d_Mo_row_43 : decode prog_6_method_25_code 43 = .ok (.ireturn, 1) := by decide +kernel
theorem d_Mo_written_0 : decode prog_6_method_26_code 0 = .ok (.aload_n 0, 1) := by decide +kernel
theorem d_Mo_written_1 : decode prog_6_method_26_code 1 = .ok (.iconst 0, 1) := by decide +kernel
theorem d_Mo_written_2 : decode prog_6_method_26_code 2 = .ok (.putfield 58, 3) := by decide +kernel
theorem d_Mo_written_5 : decode prog_6_method_26_code 5 = .ok (.aload_n 0, 1) := by decide +kernel
theorem d_Mo_written_6 : decode prog_6_method_26_code 6 = .ok (.iload_n 1, 1) := by decide +kernel
theorem d_Mo_written_7 : decode prog_6_method_26_code 7 = .ok (.invokevirtual 107, 3) := by decide +kernel
theorem d_Mo_written_10 : decode prog_6_method_26_code 10 = .ok (.ifCond .eq 12, 3) := by decide +kernel
theorem d_Mo_written_13 : decode prog_6_method_26_code 13 = .ok (.aload_n 0, 1) := by decide +kernel
theorem d_Mo_written_14 : decode prog_6_method_26_code 14 = .ok (.getfield 23, 3) := by decide +kernel
theorem d_Mo_written_17 : decode prog_6_method_26_code 17 = .ok (.iload_n 1, 1) := by decide +kernel
theorem d_Mo_written_18 : decode prog_6_method_26_code 18 = .ok (.iaload, 1) := by decide +kernel
theorem d_Mo_written_19 : decode prog_6_method_26_code 19 = .ok (.goto 4, 3) := by decide +kernel
theorem d_Mo_written_22 : decode prog_6_method_26_code 22 = .ok (.iconst (-1), 1) := by decide +kernel
theorem d_Mo_written_23 : decode prog_6_method_26_code 23 = .ok (.ireturn, 1) := by decide +kernel
theorem d_Mo_read_0 : decode prog_6_method_27_code 0 = .ok (.aload_n 0, 1) := by decide +kernel
theorem d_Mo_read_1 : decode prog_6_method_27_code 1 = .ok (.iconst 0, 1) := by decide +kernel
theorem d_Mo_read_2 : decode prog_6_method_27_code 2 = .ok (.putfield 58, 3) := by decide +kernel
theorem d_Mo_read_5 : decode prog_6_method_27_code 5 = .ok (.aload_n 0, 1) := by decide +kernel
theorem d_Mo_read_6 : decode prog_6_method_27_code 6 = .ok (.iload_n 1, 1) := by decide +kernel
theorem d_Mo_read_7 : decode prog_6_method_27_code 7 = .ok (.invokevirtual 107, 3) := by decide +kernel
theorem d_Mo_read_10 : decode prog_6_method_27_code 10 = .ok (.ifCond .eq 12, 3) := by decide +kernel
theorem d_Mo_read_13 : decode prog_6_method_27_code 13 = .ok (.aload_n 0, 1) := by decide +kernel
theorem d_Mo_read_14 : decode prog_6_method_27_code 14 = .ok (.getfield 26, 3) := by decide +kernel
theorem d_Mo_read_17 : decode prog_6_method_27_code 17 = .ok (.iload_n 1, 1) := by decide +kernel
theorem d_Mo_read_18 : decode prog_6_method_27_code 18 = .ok (.iaload, 1) := by decide +kernel
theorem d_Mo_read_19 : decode prog_6_method_27_code 19 = .ok (.goto 4, 3) := by decide +kernel
theorem d_Mo_read_22 : decode prog_6_method_27_code 22 = .ok (.iconst (-1), 1) := by decide +kernel
theorem d_Mo_read_23 : decode prog_6_method_27_code 23 = .ok (.ireturn, 1) := by decide +kernel
/-! FermionMapsModel.thrown()I -/
def f_Mo_thrown (F : Nat) (thrown : Int32) : Option (Int32) :=
  some (thrown)
abbrev rm_Mo_thrown : Room := { frames := 0, cells := 0, slots := 0, locals := 0 }
set_option maxHeartbeats 4000000 in
set_option maxRecDepth 100000 in
theorem c_Mo_thrown (l : Launch) (dC : Nat → ClassId) (dI : Nat → Nat → Nat) (cI cJ : ClassId) (a_p0 z_upsOf z_downsOf z_numberOf z_rowOf z_writes z_reads z_matrix z_other z_newUps z_newDowns z_newNumber z_found z_image z_imagePlace : Nat) (thrown : Int32) (modes : Int32) (products : Int32) (wayKind : Int32) (isImageKnown : Int32) (madeState : Int32) (madeSign : Int32) (newMany : Int32) (imagePower : Int32) (imageMany : Int32) (imageWires : Int32) (F : Nat) (u : Int32) (hf : f_Mo_thrown F thrown = some u) : Met l y_Mo_thrown (Cond.code y_Mo_thrown prog_6_method_2_code 1 (some .int) :: T0) rm_Mo_thrown (va_Pc [.ref a_p0] (Wr (dC, dI) [(a_p0, .inr (4, [.int thrown, .int modes, .int products, .ref z_upsOf, .ref z_downsOf, .ref z_numberOf, .int wayKind, .ref z_rowOf, .ref z_writes, .ref z_reads, .int isImageKnown, .int madeState, .int madeSign, .ref z_matrix, .ref z_other, .int newMany, .ref z_newUps, .ref z_newDowns, .ref z_newNumber, .ref z_found, .ref z_image, .ref z_imagePlace, .int imagePower, .int imageMany, .int imageWires]))] [(cI, .int), (cJ, .long)])) (vp_Si (fun r => r = u)) 0 0 (fun _ => False) := by
  refine Met.ofW (cc := prog_6_method_2_code) (maxL := 1) (ret := (some .int)) (by decide) rfl ?_
  intro p e s m args below meth c s₁ B hml hv
  obtain ⟨rfl, hP, hK, hNW⟩ := hv
  have hx := B.exec
  have hb := B.bytes
  have hr := B.returns
  have hts := atoms_spec (ws := Cond.code y_Mo_thrown prog_6_method_2_code 1 (some .int) :: T0) B.pre
  have ht0 : ∀ w ∈ T0, w.before ([.ref a_p0] : List Value).toArray s = true := fun w h => hts w (List.mem_cons_of_mem _ h)
  have hown : s.vm.findClass "FermionMapsModel" = some m.cls := findClass_of_methodNamed B.named
  have hlocks := B.notSynchronized
  have hl := lv_entry ([.ref a_p0]) (n := 1) (Nat.le_of_ble_eq_true rfl)
  rw [lg_entry_eq]
  generalize (lg_sl ([.ref a_p0]) ++ List.replicate (1 - (lg_sl ([.ref a_p0])).length) Slot.unset).toArray = ls at hl ⊢
  have hl : lv_has ls 1 [(0, .ref a_p0)] := hl
  refine W.nameQ (fun Q hQ => ?_)
  rw [f_Mo_thrown] at hf
  refine lv_aload_n hx hb d_Mo_thrown_0 rfl (lv_at hl 0 rfl) ?_
  refine va_get (D := (dC, dI)) (ci := 4) (v := .int thrown) (C := "FermionMapsModel") (T := F_Mo) (N := 25) hx hb ht0 i_Mo hown hK hP 0 rfl rfl 0 (by decide) (ht0 _ m_457) (fun _ h9 => h9) rfl d_Mo_thrown_1 ?_
  have hu := Option.some.inj hf
  subst hu
  exact rt_i hQ rfl hx hb hr hlocks d_Mo_thrown_4

/-! FermionMapsModel.raise()I -/
def f_Mo_raise (F : Nat) (thrown : Int32) : Option (Int32 × Int32) :=
  some (0, 1)
abbrev rm_Mo_raise : Room := { frames := 0, cells := 0, slots := 0, locals := 0 }
set_option maxHeartbeats 4000000 in
set_option maxRecDepth 100000 in
theorem c_Mo_raise (l : Launch) (dC : Nat → ClassId) (dI : Nat → Nat → Nat) (cI cJ : ClassId) (a_p0 z_upsOf z_downsOf z_numberOf z_rowOf z_writes z_reads z_matrix z_other z_newUps z_newDowns z_newNumber z_found z_image z_imagePlace : Nat) (sz : Nat) (thrown : Int32) (modes : Int32) (products : Int32) (wayKind : Int32) (isImageKnown : Int32) (madeState : Int32) (madeSign : Int32) (newMany : Int32) (imagePower : Int32) (imageMany : Int32) (imageWires : Int32) (F : Nat) (u : Int32 × Int32) (hf : f_Mo_raise F thrown = some u) : Met l y_Mo_raise (Cond.code y_Mo_raise prog_6_method_3_code 1 (some .int) :: T0) rm_Mo_raise (va_Pc [.ref a_p0] (Ww (dC, dI) [(a_p0, .inr (4, [.int thrown, .int modes, .int products, .ref z_upsOf, .ref z_downsOf, .ref z_numberOf, .int wayKind, .ref z_rowOf, .ref z_writes, .ref z_reads, .int isImageKnown, .int madeState, .int madeSign, .ref z_matrix, .ref z_other, .int newMany, .ref z_newUps, .ref z_newDowns, .ref z_newNumber, .ref z_found, .ref z_image, .ref z_imagePlace, .int imagePower, .int imageMany, .int imageWires]))] [(cI, .int), (cJ, .long)] sz)) (va_Qi (fun r (_ : Unit) => r = u.1) (Bw (dC, dI) [(cI, .int), (cJ, .long)] (va_A [(a_p0, .inr (4, [.int thrown, .int modes, .int products, .ref z_upsOf, .ref z_downsOf, .ref z_numberOf, .int wayKind, .ref z_rowOf, .ref z_writes, .ref z_reads, .int isImageKnown, .int madeState, .int madeSign, .ref z_matrix, .ref z_other, .int newMany, .ref z_newUps, .ref z_newDowns, .ref z_newNumber, .ref z_found, .ref z_image, .ref z_imagePlace, .int imagePower, .int imageMany, .int imageWires]))] sz) (fun w1 => w1 = [(a_p0, .inr (4, [.int u.2, .int modes, .int products, .ref z_upsOf, .ref z_downsOf, .ref z_numberOf, .int wayKind, .ref z_rowOf, .ref z_writes, .ref z_reads, .int isImageKnown, .int madeState, .int madeSign, .ref z_matrix, .ref z_other, .int newMany, .ref z_newUps, .ref z_newDowns, .ref z_newNumber, .ref z_found, .ref z_image, .ref z_imagePlace, .int imagePower, .int imageMany, .int imageWires]))])) (va_A [(a_p0, .inr (4, [.int thrown, .int modes, .int products, .ref z_upsOf, .ref z_downsOf, .ref z_numberOf, .int wayKind, .ref z_rowOf, .ref z_writes, .ref z_reads, .int isImageKnown, .int madeState, .int madeSign, .ref z_matrix, .ref z_other, .int newMany, .ref z_newUps, .ref z_newDowns, .ref z_newNumber, .ref z_found, .ref z_image, .ref z_imagePlace, .int imagePower, .int imageMany, .int imageWires]))] sz)) 0 0 (va_A [(a_p0, .inr (4, [.int thrown, .int modes, .int products, .ref z_upsOf, .ref z_downsOf, .ref z_numberOf, .int wayKind, .ref z_rowOf, .ref z_writes, .ref z_reads, .int isImageKnown, .int madeState, .int madeSign, .ref z_matrix, .ref z_other, .int newMany, .ref z_newUps, .ref z_newDowns, .ref z_newNumber, .ref z_found, .ref z_image, .ref z_imagePlace, .int imagePower, .int imageMany, .int imageWires]))] sz) := by
  refine Met.ofW (cc := prog_6_method_3_code) (maxL := 1) (ret := (some .int)) (by decide) rfl ?_
  intro p e s m args below meth c s₁ B hml hv
  obtain ⟨rfl, hsz, hP, hK, hD0, hNW⟩ := hv
  have hx := B.exec
  have hb := B.bytes
  have hr := B.returns
  have hts := atoms_spec (ws := Cond.code y_Mo_raise prog_6_method_3_code 1 (some .int) :: T0) B.pre
  have ht0 : ∀ w ∈ T0, w.before ([.ref a_p0] : List Value).toArray s = true := fun w h => hts w (List.mem_cons_of_mem _ h)
  have hown : s.vm.findClass "FermionMapsModel" = some m.cls := findClass_of_methodNamed B.named
  have hlocks := B.notSynchronized
  subst hsz
  have hD := hD0.self (sz := s.heap.size)
  generalize hAe : va_A [(a_p0, .inr (4, [.int thrown, .int modes, .int products, .ref z_upsOf, .ref z_downsOf, .ref z_numberOf, .int wayKind, .ref z_rowOf, .ref z_writes, .ref z_reads, .int isImageKnown, .int madeState, .int madeSign, .ref z_matrix, .ref z_other, .int newMany, .ref z_newUps, .ref z_newDowns, .ref z_newNumber, .ref z_found, .ref z_image, .ref z_imagePlace, .int imagePower, .int imageMany, .int imageWires]))] s.heap.size = A at hD ⊢
  have hA : ∀ q : Nat, s.heap.size ≤ q → A q := fun q h => by rw [← hAe]; exact Or.inr h
  have hS : va_S A s.heap s.heap [] := va_S.rf
  have hl := lv_entry ([.ref a_p0]) (n := 1) (Nat.le_of_ble_eq_true rfl)
  rw [lg_entry_eq]
  generalize (lg_sl ([.ref a_p0]) ++ List.replicate (1 - (lg_sl ([.ref a_p0])).length) Slot.unset).toArray = ls at hl ⊢
  have hl : lv_has ls 1 [(0, .ref a_p0)] := hl
  refine W.nameQ (fun Q hQ => ?_)
  rw [f_Mo_raise] at hf
  refine lv_aload_n hx hb d_Mo_raise_0 rfl (lv_at hl 0 rfl) ?_
  refine lv_iconst (v := 1) hx hb d_Mo_raise_1 (by decide) ?_
  refine va_put (D := (dC, dI)) (ci := 4) (v := .int 1) (ty := .int) (C := "FermionMapsModel") (T := F_Mo) (N := 25) hx hb ht0 i_Mo t_Mo t_Mo_ok n_Mo hown hK hP hD hS 0 rfl rfl 0 (by decide) (ht0 _ m_457) (fun _ h9 => h9) rfl (by decide +kernel) rfl rfl (Nat.le_of_ble_eq_true rfl) d_Mo_raise_2 (fun H locs hP hD hS => ?_)
  have hP : va_P (dC, dI) cls [(a_p0, .inr (4, [.int 1, .int modes, .int products, .ref z_upsOf, .ref z_downsOf, .ref z_numberOf, .int wayKind, .ref z_rowOf, .ref z_writes, .ref z_reads, .int isImageKnown, .int madeState, .int madeSign, .ref z_matrix, .ref z_other, .int newMany, .ref z_newUps, .ref z_newDowns, .ref z_newNumber, .ref z_found, .ref z_image, .ref z_imagePlace, .int imagePower, .int imageMany, .int imageWires]))] H := hP
  have hD : va_D A [(a_p0, .inr (4, [.int 1, .int modes, .int products, .ref z_upsOf, .ref z_downsOf, .ref z_numberOf, .int wayKind, .ref z_rowOf, .ref z_writes, .ref z_reads, .int isImageKnown, .int madeState, .int madeSign, .ref z_matrix, .ref z_other, .int newMany, .ref z_newUps, .ref z_newDowns, .ref z_newNumber, .ref z_found, .ref z_image, .ref z_imagePlace, .int imagePower, .int imageMany, .int imageWires]))] := hD
  refine lv_iconst (v := 0) hx hb d_Mo_raise_5 (by decide) ?_
  have hu := Option.some.inj hf
  subst hu
  exact rw_i hQ rfl rfl hP hD hK hS hx hb hr hlocks d_Mo_raise_6

/-! FermionMapsModel.states()I -/
def f_Mo_states (F : Nat) (modes : Int32) : Option (Int32) :=
  some (((1 : Int32) <<< (modes &&& 31)))
abbrev rm_Mo_states : Room := { frames := 0, cells := 0, slots := 0, locals := 0 }
set_option maxHeartbeats 4000000 in
set_option maxRecDepth 100000 in
theorem c_Mo_states (l : Launch) (dC : Nat → ClassId) (dI : Nat → Nat → Nat) (cI cJ : ClassId) (a_p0 z_upsOf z_downsOf z_numberOf z_rowOf z_writes z_reads z_matrix z_other z_newUps z_newDowns z_newNumber z_found z_image z_imagePlace : Nat) (thrown : Int32) (modes : Int32) (products : Int32) (wayKind : Int32) (isImageKnown : Int32) (madeState : Int32) (madeSign : Int32) (newMany : Int32) (imagePower : Int32) (imageMany : Int32) (imageWires : Int32) (F : Nat) (u : Int32) (hf : f_Mo_states F modes = some u) : Met l y_Mo_states (Cond.code y_Mo_states prog_6_method_4_code 1 (some .int) :: T0) rm_Mo_states (va_Pc [.ref a_p0] (Wr (dC, dI) [(a_p0, .inr (4, [.int thrown, .int modes, .int products, .ref z_upsOf, .ref z_downsOf, .ref z_numberOf, .int wayKind, .ref z_rowOf, .ref z_writes, .ref z_reads, .int isImageKnown, .int madeState, .int madeSign, .ref z_matrix, .ref z_other, .int newMany, .ref z_newUps, .ref z_newDowns, .ref z_newNumber, .ref z_found, .ref z_image, .ref z_imagePlace, .int imagePower, .int imageMany, .int imageWires]))] [(cI, .int), (cJ, .long)])) (vp_Si (fun r => r = u)) 0 0 (fun _ => False) := by
  refine Met.ofW (cc := prog_6_method_4_code) (maxL := 1) (ret := (some .int)) (by decide) rfl ?_
  intro p e s m args below meth c s₁ B hml hv
  obtain ⟨rfl, hP, hK, hNW⟩ := hv
  have hx := B.exec
  have hb := B.bytes
  have hr := B.returns
  have hts := atoms_spec (ws := Cond.code y_Mo_states prog_6_method_4_code 1 (some .int) :: T0) B.pre
  have ht0 : ∀ w ∈ T0, w.before ([.ref a_p0] : List Value).toArray s = true := fun w h => hts w (List.mem_cons_of_mem _ h)
  have hown : s.vm.findClass "FermionMapsModel" = some m.cls := findClass_of_methodNamed B.named
  have hlocks := B.notSynchronized
  have hl := lv_entry ([.ref a_p0]) (n := 1) (Nat.le_of_ble_eq_true rfl)
  rw [lg_entry_eq]
  generalize (lg_sl ([.ref a_p0]) ++ List.replicate (1 - (lg_sl ([.ref a_p0])).length) Slot.unset).toArray = ls at hl ⊢
  have hl : lv_has ls 1 [(0, .ref a_p0)] := hl
  refine W.nameQ (fun Q hQ => ?_)
  rw [f_Mo_states] at hf
  refine lv_iconst (v := 1) hx hb d_Mo_states_0 (by decide) ?_
  refine lv_aload_n hx hb d_Mo_states_1 rfl (lv_at hl 0 rfl) ?_
  refine va_get (D := (dC, dI)) (ci := 4) (v := .int modes) (C := "FermionMapsModel") (T := F_Mo) (N := 25) hx hb ht0 i_Mo hown hK hP 0 rfl rfl 1 (by decide) (ht0 _ m_458) (fun _ h9 => h9) rfl d_Mo_states_2 ?_
  refine lv_ishl hx hb d_Mo_states_5 ?_
  have hu := Option.some.inj hf
  subst hu
  exact rt_i hQ rfl hx hb hr hlocks d_Mo_states_6

/-! FermionMapsModel.setOf(II)I -/
def f_Mo_setOf (F : Nat) (rowOf : Nat → Int32) (p1 : Int32) (p2 : Int32) : Option (Int32) :=
  if p1 = 3 then
    ckI p2 8 <|
    some ((rowOf p2.toNatClampNeg))
  else
    if p1 = 0 then
      some (((1 : Int32) <<< (p2 &&& 31)))
    else
      if p1 = 1 then
        some ((((2 : Int32) <<< (p2 &&& 31)) - 1))
      else
        nm (((p2 + 1) &&& (-(p2 + 1))) : Int32) fun x3_4 =>
        some ((((2 : Int32) <<< (p2 &&& 31)) - ((1 : Int32) <<< (((p2 - x3_4) + 1) &&& 31))))
abbrev rm_Mo_setOf : Room := { frames := 0, cells := 0, slots := 0, locals := 0 }
set_option maxHeartbeats 4000000 in
set_option maxRecDepth 100000 in
theorem c_Mo_setOf (l : Launch) (dC : Nat → ClassId) (dI : Nat → Nat → Nat) (cI cJ : ClassId) (a_p0 a_rowOf z_upsOf z_downsOf z_numberOf z_writes z_reads z_matrix z_other z_newUps z_newDowns z_newNumber z_found z_image z_imagePlace : Nat) (thrown : Int32) (modes : Int32) (products : Int32) (wayKind : Int32) (isImageKnown : Int32) (madeState : Int32) (madeSign : Int32) (newMany : Int32) (imagePower : Int32) (imageMany : Int32) (imageWires : Int32) (rowOf : Nat → Int32) (p1 : Int32) (p2 : Int32) (F : Nat) (u : Int32) (hf : f_Mo_setOf F rowOf p1 p2 = some u) : Met l y_Mo_setOf (Cond.code y_Mo_setOf prog_6_method_21_code 4 (some .int) :: T0) rm_Mo_setOf (va_Pc [.ref a_p0, .int p1, .int p2] (Wr (dC, dI) [(a_p0, .inr (4, [.int thrown, .int modes, .int products, .ref z_upsOf, .ref z_downsOf, .ref z_numberOf, .int wayKind, .ref a_rowOf, .ref z_writes, .ref z_reads, .int isImageKnown, .int madeState, .int madeSign, .ref z_matrix, .ref z_other, .int newMany, .ref z_newUps, .ref z_newDowns, .ref z_newNumber, .ref z_found, .ref z_image, .ref z_imagePlace, .int imagePower, .int imageMany, .int imageWires])), (a_rowOf, .inl (cI, 8, .inl rowOf))] [(cI, .int), (cJ, .long)])) (vp_Si (fun r => r = u)) 0 0 (fun _ => False) := by
  refine Met.ofW (cc := prog_6_method_21_code) (maxL := 4) (ret := (some .int)) (by decide) rfl ?_
  intro p e s m args below meth c s₁ B hml hv
  obtain ⟨rfl, hP, hK, hNW⟩ := hv
  have hx := B.exec
  have hb := B.bytes
  have hr := B.returns
  have hts := atoms_spec (ws := Cond.code y_Mo_setOf prog_6_method_21_code 4 (some .int) :: T0) B.pre
  have ht0 : ∀ w ∈ T0, w.before ([.ref a_p0, .int p1, .int p2] : List Value).toArray s = true := fun w h => hts w (List.mem_cons_of_mem _ h)
  have hown : s.vm.findClass "FermionMapsModel" = some m.cls := findClass_of_methodNamed B.named
  have hlocks := B.notSynchronized
  have hl := lv_entry ([.ref a_p0, .int p1, .int p2]) (n := 4) (Nat.le_of_ble_eq_true rfl)
  rw [lg_entry_eq]
  generalize (lg_sl ([.ref a_p0, .int p1, .int p2]) ++ List.replicate (4 - (lg_sl ([.ref a_p0, .int p1, .int p2])).length) Slot.unset).toArray = ls at hl ⊢
  have hl : lv_has ls 4 [(0, .ref a_p0), (1, .int p1), (2, .int p2)] := hl
  refine W.nameQ (fun Q hQ => ?_)
  rw [f_Mo_setOf] at hf
  refine lv_iload_n hx hb d_Mo_setOf_0 rfl (lv_at hl 1 rfl) ?_
  refine lv_iconst (v := 3) hx hb d_Mo_setOf_1 (by decide) ?_
  refine lv_icmp_ne (tgt := 12) hx hb d_Mo_setOf_2 (by decide) (fun c_1 => ?_) (fun c_1 => ?_)
  · replace hf := if_f c_1 hf
    refine lv_iload_n hx hb d_Mo_setOf_12 rfl (lv_at hl 1 rfl) ?_
    refine lv_if_ne (tgt := 20) hx hb d_Mo_setOf_13 (by decide) (fun c_2 => ?_) (fun c_2 => ?_)
    · replace hf := if_f c_2 hf
      refine lv_iload_n hx hb d_Mo_setOf_20 rfl (lv_at hl 1 rfl) ?_
      refine lv_iconst (v := 1) hx hb d_Mo_setOf_21 (by decide) ?_
      refine lv_icmp_ne (tgt := 31) hx hb d_Mo_setOf_22 (by decide) (fun c_3 => ?_) (fun c_3 => ?_)
      · replace hf := if_f c_3 hf
        refine lv_iload_n hx hb d_Mo_setOf_31 rfl (lv_at hl 2 rfl) ?_
        refine lv_iconst (v := 1) hx hb d_Mo_setOf_32 (by decide) ?_
        refine lv_iadd hx hb d_Mo_setOf_33 ?_
        refine lv_iload_n hx hb d_Mo_setOf_34 rfl (lv_at hl 2 rfl) ?_
        refine lv_iconst (v := 1) hx hb d_Mo_setOf_35 (by decide) ?_
        refine lv_iadd hx hb d_Mo_setOf_36 ?_
        refine lv_ineg hx hb d_Mo_setOf_37 ?_
        refine lv_iand hx hb d_Mo_setOf_38 ?_
        refine lv_topi (fun x3_4 e_x3_4 => ?_)
        replace hf := nm_eq e_x3_4 hf
        refine lv_istore_n (lv' := [(3, .int x3_4), (0, .ref a_p0), (1, .int p1), (2, .int p2)]) hx hb d_Mo_setOf_39 rfl hl (by decide) rfl (fun ls hl => ?_)
        refine lv_iconst (v := 2) hx hb d_Mo_setOf_40 (by decide) ?_
        refine lv_iload_n hx hb d_Mo_setOf_41 rfl (lv_at hl 3 rfl) ?_
        refine lv_ishl hx hb d_Mo_setOf_42 ?_
        refine lv_iconst (v := 1) hx hb d_Mo_setOf_43 (by decide) ?_
        refine lv_iload_n hx hb d_Mo_setOf_44 rfl (lv_at hl 3 rfl) ?_
        refine lv_iload_n hx hb d_Mo_setOf_45 rfl (lv_at hl 0 rfl) ?_
        refine lv_isub hx hb d_Mo_setOf_46 ?_
        refine lv_iconst (v := 1) hx hb d_Mo_setOf_47 (by decide) ?_
        refine lv_iadd hx hb d_Mo_setOf_48 ?_
        refine lv_ishl hx hb d_Mo_setOf_49 ?_
        refine lv_isub hx hb d_Mo_setOf_50 ?_
        have hu := Option.some.inj hf
        subst hu
        exact rt_i hQ rfl hx hb hr hlocks d_Mo_setOf_51
      · replace hf := if_t c_3 hf
        refine lv_iconst (v := 2) hx hb d_Mo_setOf_25 (by decide) ?_
        refine lv_iload_n hx hb d_Mo_setOf_26 rfl (lv_at hl 2 rfl) ?_
        refine lv_ishl hx hb d_Mo_setOf_27 ?_
        refine lv_iconst (v := 1) hx hb d_Mo_setOf_28 (by decide) ?_
        refine lv_isub hx hb d_Mo_setOf_29 ?_
        have hu := Option.some.inj hf
        subst hu
        exact rt_i hQ rfl hx hb hr hlocks d_Mo_setOf_30
    · replace hf := if_t c_2 hf
      refine lv_iconst (v := 1) hx hb d_Mo_setOf_16 (by decide) ?_
      refine lv_iload_n hx hb d_Mo_setOf_17 rfl (lv_at hl 2 rfl) ?_
      refine lv_ishl hx hb d_Mo_setOf_18 ?_
      have hu := Option.some.inj hf
      subst hu
      exact rt_i hQ rfl hx hb hr hlocks d_Mo_setOf_19
  · replace hf := if_t c_1 hf
    refine lv_aload_n hx hb d_Mo_setOf_5 rfl (lv_at hl 0 rfl) ?_
    refine va_get (D := (dC, dI)) (ci := 4) (v := .ref a_rowOf) (C := "FermionMapsModel") (T := F_Mo) (N := 25) hx hb ht0 i_Mo hown hK hP 0 rfl rfl 7 (by decide) (ht0 _ m_464) (fun _ h9 => h9) rfl d_Mo_setOf_6 ?_
    refine lv_iload_n hx hb d_Mo_setOf_9 rfl (lv_at hl 2 rfl) ?_
    obtain ⟨hi_5, hf⟩ := ckI_ok hf
    refine va_iald hx hb hK hP 1 0 rfl rfl hi_5 d_Mo_setOf_10 ?_
    have hu := Option.some.inj hf
    subst hu
    exact rt_i hQ rfl hx hb hr hlocks d_Mo_setOf_11

/-! FermionMapsModel.ones(I)I -/
def b_Mo_ones_4 (F : Nat) : Nat → Int32 → Int32 → Int32 → Option (Int32)
  | 0, _, _, _ => none
  | n + 1, x0, x1, x2 =>
    if 8 ≤ x2 then
      some (x1)
    else
      nm ((x1 + ((x0 >>> (x2 &&& 31)) &&& 1)) : Int32) fun x1_2 =>
      nm (x2 + 1 : Int32) fun x2_3 =>
      b_Mo_ones_4 F n x0 x1_2 x2_3
def f_Mo_ones (F : Nat) (p0 : Int32) : Option (Int32) :=
  b_Mo_ones_4 F F p0 0 0
abbrev rm_Mo_ones : Room := { frames := 0, cells := 0, slots := 0, locals := 0 }
set_option maxHeartbeats 4000000 in
set_option maxRecDepth 100000 in
theorem c_Mo_ones (l : Launch) (dC : Nat → ClassId) (dI : Nat → Nat → Nat) (cI cJ : ClassId) (p0 : Int32) (F : Nat) (u : Int32) (hf : f_Mo_ones F p0 = some u) : Met l y_Mo_ones (Cond.code y_Mo_ones prog_6_method_8_code 3 (some .int) :: T0) rm_Mo_ones (va_Pc [.int p0] (Wr (dC, dI) [] [(cI, .int), (cJ, .long)])) (vp_Si (fun r => r = u)) 0 0 (fun _ => False) := by
  refine Met.ofW (cc := prog_6_method_8_code) (maxL := 3) (ret := (some .int)) (by decide) rfl ?_
  intro p e s m args below meth c s₁ B hml hv
  obtain ⟨rfl, hP, hK, hNW⟩ := hv
  have hx := B.exec
  have hb := B.bytes
  have hr := B.returns
  have hts := atoms_spec (ws := Cond.code y_Mo_ones prog_6_method_8_code 3 (some .int) :: T0) B.pre
  have ht0 : ∀ w ∈ T0, w.before ([.int p0] : List Value).toArray s = true := fun w h => hts w (List.mem_cons_of_mem _ h)
  have hown : s.vm.findClass "FermionMapsModel" = some m.cls := findClass_of_methodNamed B.named
  have hlocks := B.notSynchronized
  have hl := lv_entry ([.int p0]) (n := 3) (Nat.le_of_ble_eq_true rfl)
  rw [lg_entry_eq]
  generalize (lg_sl ([.int p0]) ++ List.replicate (3 - (lg_sl ([.int p0])).length) Slot.unset).toArray = ls at hl ⊢
  have hl : lv_has ls 3 [(0, .int p0)] := hl
  refine W.nameQ (fun Q hQ => ?_)
  have B_4 : ∀ (n : Nat), ∀ (x0 : Int32) (x1 : Int32) (x2 : Int32) (ls : Array Slot), b_Mo_ones_4 F n x0 x1 x2 = some u → lv_has ls 3 [(0, .int x0), (1, .int x1), (2, .int x2)] → W p l e (headSpec (Cond.code y_Mo_ones prog_6_method_8_code 3 (some .int) :: T0) rm_Mo_ones).room s m ([.int p0] : List Value).toArray below meth c s.heap [] 0 0 Q (F0 m 4 ls []) := by
    intro n
    induction n with
    | zero =>
      intro x0 x1 x2 ls hf hl
      exact no_fuel hf
    | succ n ih =>
      intro x0 x1 x2 ls hf hl
      rw [b_Mo_ones_4] at hf
      refine lv_iload_n hx hb d_Mo_ones_4 rfl (lv_at hl 2 rfl) ?_
      refine lv_bipush (v := 8) hx hb d_Mo_ones_5 (by decide) ?_
      refine lv_icmp_ge (tgt := 24) hx hb d_Mo_ones_7 (by decide) (fun c_1 => ?_) (fun c_1 => ?_)
      · replace hf := if_t c_1 hf
        refine lv_iload_n hx hb d_Mo_ones_24 rfl (lv_at hl 1 rfl) ?_
        have hu := Option.some.inj hf
        subst hu
        exact rt_i hQ rfl hx hb hr hlocks d_Mo_ones_25
      · replace hf := if_f c_1 hf
        refine lv_iload_n hx hb d_Mo_ones_10 rfl (lv_at hl 1 rfl) ?_
        refine lv_iload_n hx hb d_Mo_ones_11 rfl (lv_at hl 0 rfl) ?_
        refine lv_iload_n hx hb d_Mo_ones_12 rfl (lv_at hl 2 rfl) ?_
        refine lv_ishr hx hb d_Mo_ones_13 ?_
        refine lv_iconst (v := 1) hx hb d_Mo_ones_14 (by decide) ?_
        refine lv_iand hx hb d_Mo_ones_15 ?_
        refine lv_iadd hx hb d_Mo_ones_16 ?_
        refine lv_topi (fun x1_2 e_x1_2 => ?_)
        replace hf := nm_eq e_x1_2 hf
        refine lv_istore_n (lv' := [(1, .int x1_2), (0, .int x0), (2, .int x2)]) hx hb d_Mo_ones_17 rfl hl (by decide) rfl (fun ls hl => ?_)
        obtain ⟨x2_3, e_x2_3⟩ : ∃ y : Int32, y = x2 + 1 := ⟨_, rfl⟩
        replace hf := nm_eq e_x2_3 hf
        refine lv_iinc (v := x2_3) (lv' := [(2, .int x2_3), (1, .int x1_2), (0, .int x0)]) hx hb d_Mo_ones_18 hl (k := 2) rfl (by rw [e_x2_3]; rfl) (by decide) rfl (fun ls hl => ?_)
        refine lv_goto (tgt := 4) hx hb d_Mo_ones_21 (by decide) ?_
        exact ih x0 x1_2 x2_3 ls hf (lv_sub hl [2, 1, 0] rfl)
  rw [f_Mo_ones] at hf
  refine lv_iconst (v := 0) hx hb d_Mo_ones_0 (by decide) ?_
  refine lv_istore_n (lv' := [(1, .int 0), (0, .int p0)]) hx hb d_Mo_ones_1 rfl hl (by decide) rfl (fun ls hl => ?_)
  refine lv_iconst (v := 0) hx hb d_Mo_ones_2 (by decide) ?_
  refine lv_istore_n (lv' := [(2, .int 0), (1, .int 0), (0, .int p0)]) hx hb d_Mo_ones_3 rfl hl (by decide) rfl (fun ls hl => ?_)
  exact B_4 F p0 0 0 ls hf (lv_sub hl [2, 1, 0] rfl)

/-! FermionMapsModel.write(II)I -/
def b_Mo_write_5 (F : Nat) (modes : Int32) (rowOf : Nat → Int32) : Nat → Int32 → Int32 → Int32 → Int32 → Option (Int32)
  | 0, _, _, _, _ => none
  | n + 1, x1, x2, x3, x4 =>
    if modes ≤ x4 then
      some (x3)
    else
      (f_Mo_setOf F rowOf x1 x4).bind fun u_2 =>
      (f_Mo_ones F (u_2 &&& x2)).bind fun u_3 =>
      ckZ 2 <|
      nm ((x3 ||| ((u_3 - u_3 / 2 * 2) <<< (x4 &&& 31))) : Int32) fun x3_5 =>
      nm (x4 + 1 : Int32) fun x4_6 =>
      b_Mo_write_5 F modes rowOf n x1 x2 x3_5 x4_6
def f_Mo_write (F : Nat) (modes : Int32) (rowOf : Nat → Int32) (p1 : Int32) (p2 : Int32) : Option (Int32) :=
  b_Mo_write_5 F modes rowOf F p1 p2 0 0
abbrev rm_Mo_write : Room := { frames := 1, cells := 0, slots := 0, locals := 23 }
set_option maxHeartbeats 4000000 in
set_option maxRecDepth 100000 in
theorem c_Mo_write (l : Launch) (dC : Nat → ClassId) (dI : Nat → Nat → Nat) (cI cJ : ClassId) (a_p0 a_rowOf z_upsOf z_downsOf z_numberOf z_writes z_reads z_matrix z_other z_newUps z_newDowns z_newNumber z_found z_image z_imagePlace : Nat) (thrown : Int32) (modes : Int32) (products : Int32) (wayKind : Int32) (isImageKnown : Int32) (madeState : Int32) (madeSign : Int32) (newMany : Int32) (imagePower : Int32) (imageMany : Int32) (imageWires : Int32) (rowOf : Nat → Int32) (p1 : Int32) (p2 : Int32) (F : Nat) (u : Int32) (hf : f_Mo_write F modes rowOf p1 p2 = some u) : Met l y_Mo_write (Cond.code y_Mo_write prog_6_method_22_code 5 (some .int) :: T0) rm_Mo_write (va_Pc [.ref a_p0, .int p1, .int p2] (Wr (dC, dI) [(a_p0, .inr (4, [.int thrown, .int modes, .int products, .ref z_upsOf, .ref z_downsOf, .ref z_numberOf, .int wayKind, .ref a_rowOf, .ref z_writes, .ref z_reads, .int isImageKnown, .int madeState, .int madeSign, .ref z_matrix, .ref z_other, .int newMany, .ref z_newUps, .ref z_newDowns, .ref z_newNumber, .ref z_found, .ref z_image, .ref z_imagePlace, .int imagePower, .int imageMany, .int imageWires])), (a_rowOf, .inl (cI, 8, .inl rowOf))] [(cI, .int), (cJ, .long)])) (vp_Si (fun r => r = u)) 0 0 (fun _ => False) := by
  refine Met.ofW (cc := prog_6_method_22_code) (maxL := 5) (ret := (some .int)) (by decide) rfl ?_
  intro p e s m args below meth c s₁ B hml hv
  obtain ⟨rfl, hP, hK, hNW⟩ := hv
  have hx := B.exec
  have hb := B.bytes
  have hr := B.returns
  have hts := atoms_spec (ws := Cond.code y_Mo_write prog_6_method_22_code 5 (some .int) :: T0) B.pre
  have ht0 : ∀ w ∈ T0, w.before ([.ref a_p0, .int p1, .int p2] : List Value).toArray s = true := fun w h => hts w (List.mem_cons_of_mem _ h)
  have hown : s.vm.findClass "FermionMapsModel" = some m.cls := findClass_of_methodNamed B.named
  have hlocks := B.notSynchronized
  have hl := lv_entry ([.ref a_p0, .int p1, .int p2]) (n := 5) (Nat.le_of_ble_eq_true rfl)
  rw [lg_entry_eq]
  generalize (lg_sl ([.ref a_p0, .int p1, .int p2]) ++ List.replicate (5 - (lg_sl ([.ref a_p0, .int p1, .int p2])).length) Slot.unset).toArray = ls at hl ⊢
  have hl : lv_has ls 5 [(0, .ref a_p0), (1, .int p1), (2, .int p2)] := hl
  refine W.nameQ (fun Q hQ => ?_)
  have B_5 : ∀ (n : Nat), ∀ (x1 : Int32) (x2 : Int32) (x3 : Int32) (x4 : Int32) (ls : Array Slot), b_Mo_write_5 F modes rowOf n x1 x2 x3 x4 = some u → lv_has ls 5 [(0, .ref a_p0), (1, .int x1), (2, .int x2), (3, .int x3), (4, .int x4)] → W p l e (headSpec (Cond.code y_Mo_write prog_6_method_22_code 5 (some .int) :: T0) rm_Mo_write).room s m ([.ref a_p0, .int p1, .int p2] : List Value).toArray below meth c s.heap [] 0 0 Q (F0 m 5 ls []) := by
    intro n
    induction n with
    | zero =>
      intro x1 x2 x3 x4 ls hf hl
      exact no_fuel hf
    | succ n ih =>
      intro x1 x2 x3 x4 ls hf hl
      rw [b_Mo_write_5] at hf
      refine lv_iload hx hb d_Mo_write_5 (lv_at hl 4 rfl) ?_
      refine lv_aload_n hx hb d_Mo_write_7 rfl (lv_at hl 0 rfl) ?_
      refine va_get (D := (dC, dI)) (ci := 4) (v := .int modes) (C := "FermionMapsModel") (T := F_Mo) (N := 25) hx hb ht0 i_Mo hown hK hP 0 rfl rfl 1 (by decide) (ht0 _ m_458) (fun _ h9 => h9) rfl d_Mo_write_8 ?_
      refine lv_icmp_ge (tgt := 40) hx hb d_Mo_write_11 (by decide) (fun c_1 => ?_) (fun c_1 => ?_)
      · replace hf := if_t c_1 hf
        refine lv_iload_n hx hb d_Mo_write_40 rfl (lv_at hl 3 rfl) ?_
        have hu := Option.some.inj hf
        subst hu
        exact rt_i hQ rfl hx hb hr hlocks d_Mo_write_41
      · replace hf := if_f c_1 hf
        refine lv_iload_n hx hb d_Mo_write_14 rfl (lv_at hl 3 rfl) ?_
        refine lv_aload_n hx hb d_Mo_write_15 rfl (lv_at hl 0 rfl) ?_
        refine lv_iload_n hx hb d_Mo_write_16 rfl (lv_at hl 1 rfl) ?_
        refine lv_iload hx hb d_Mo_write_17 (lv_at hl 4 rfl) ?_
        obtain ⟨u_2, h_u_2, hf⟩ := bd hf
        refine rd_i (rdV_run (As := [.int x1, .int x4]) (rest := [.int x3]) ⟨hx, hb, hml, hown, ht0⟩ (c_Mo_setOf l dC dI cI cJ a_p0 a_rowOf z_upsOf z_downsOf z_numberOf z_writes z_reads z_matrix z_other z_newUps z_newDowns z_newNumber z_found z_image z_imagePlace thrown modes products wayKind isImageKnown madeState madeSign newMany imagePower imageMany imageWires rowOf x1 x4 F u_2 h_u_2) (cwV 2 ht0 (gV m_450 m_452 (T0_pr (y := ⟨"FermionMapsModel", "setOf", "(II)I"⟩) (i := 6) rfl rfl) m_5 m_453) rfl rfl rfl (by decide +kernel) ⟨Nat.le_of_ble_eq_true rfl, Nat.le_of_ble_eq_true rfl⟩) hK hNW hP [0, 1] rfl (ci := 4) (q0 := 0) rfl rfl rfl hl.1 rfl (Nat.le_of_ble_eq_true rfl) d_Mo_write_19 ⟨Nat.zero_le _, Nat.zero_le _⟩) ?_
        refine lv_iload_n hx hb d_Mo_write_22 rfl (lv_at hl 2 rfl) ?_
        refine lv_iand hx hb d_Mo_write_23 ?_
        obtain ⟨u_3, h_u_3, hf⟩ := bd hf
        refine rd_i (rdS_run (As := [.int (u_2 &&& x2)]) (rest := [.int x3]) ⟨hx, hb, hml, hown, ht0⟩ (c_Mo_ones l dC dI cI cJ (u_2 &&& x2) F u_3 h_u_3) (va_cwS 1 ht0 (gS m_454 m_455 m_5 m_456) rfl rfl rfl (by decide +kernel) ⟨Nat.le_of_ble_eq_true rfl, Nat.le_of_ble_eq_true rfl⟩) hK hNW hP [] rfl  rfl hl.1 rfl (Nat.le_of_ble_eq_true rfl) d_Mo_write_24 ⟨Nat.zero_le _, Nat.zero_le _⟩) ?_
        refine lv_iconst (v := 2) hx hb d_Mo_write_27 (by decide) ?_
        obtain ⟨hz_4, hf⟩ := ckZ_ok hf
        refine lv_irem hx hb d_Mo_write_28 hz_4 ?_
        refine lv_iload hx hb d_Mo_write_29 (lv_at hl 4 rfl) ?_
        refine lv_ishl hx hb d_Mo_write_31 ?_
        refine lv_ior hx hb d_Mo_write_32 ?_
        refine lv_topi (fun x3_5 e_x3_5 => ?_)
        replace hf := nm_eq e_x3_5 hf
        refine lv_istore_n (lv' := [(3, .int x3_5), (0, .ref a_p0), (1, .int x1), (2, .int x2), (4, .int x4)]) hx hb d_Mo_write_33 rfl hl (by decide) rfl (fun ls hl => ?_)
        obtain ⟨x4_6, e_x4_6⟩ : ∃ y : Int32, y = x4 + 1 := ⟨_, rfl⟩
        replace hf := nm_eq e_x4_6 hf
        refine lv_iinc (v := x4_6) (lv' := [(4, .int x4_6), (3, .int x3_5), (0, .ref a_p0), (1, .int x1), (2, .int x2)]) hx hb d_Mo_write_34 hl (k := 4) rfl (by rw [e_x4_6]; rfl) (by decide) rfl (fun ls hl => ?_)
        refine lv_goto (tgt := 5) hx hb d_Mo_write_37 (by decide) ?_
        exact ih x1 x2 x3_5 x4_6 ls hf (lv_sub hl [2, 3, 4, 1, 0] rfl)
  rw [f_Mo_write] at hf
  refine lv_iconst (v := 0) hx hb d_Mo_write_0 (by decide) ?_
  refine lv_istore_n (lv' := [(3, .int 0), (0, .ref a_p0), (1, .int p1), (2, .int p2)]) hx hb d_Mo_write_1 rfl hl (by decide) rfl (fun ls hl => ?_)
  refine lv_iconst (v := 0) hx hb d_Mo_write_2 (by decide) ?_
  refine lv_istore (lv' := [(4, .int 0), (3, .int 0), (0, .ref a_p0), (1, .int p1), (2, .int p2)]) hx hb d_Mo_write_3 hl (by decide) rfl (fun ls hl => ?_)
  exact B_5 F p1 p2 0 0 ls hf (lv_sub hl [2, 3, 4, 1, 0] rfl)

/-! FermionMapsModel.writeAll()V -/
def b_Mo_writeAll_2 (F : Nat) (modes : Int32) (wayKind : Int32) (rowOf : Nat → Int32) : Nat → Int32 → Int32 → (Nat → Int32) → (Nat → Int32) → Option (Int32 × (Nat → Int32) × (Nat → Int32))
  | 0, _, _, _, _ => none
  | n + 1, x1, isImageKnown, writes, reads =>
    (f_Mo_states F modes).bind fun u_1 =>
    if u_1 ≤ x1 then
      some (0, writes, reads)
    else
      (f_Mo_write F modes rowOf wayKind x1).bind fun u_3 =>
      ckI x1 256 <|
      ckI x1 256 <|
      ckI ((upd writes x1.toNatClampNeg u_3) x1.toNatClampNeg) 256 <|
      nm (x1 + 1 : Int32) fun x1_7 =>
      b_Mo_writeAll_2 F modes wayKind rowOf n x1_7 isImageKnown (upd writes x1.toNatClampNeg u_3) (upd reads ((upd writes x1.toNatClampNeg u_3) x1.toNatClampNeg).toNatClampNeg x1)
def f_Mo_writeAll (F : Nat) (modes : Int32) (wayKind : Int32) (isImageKnown : Int32) (rowOf : Nat → Int32) (writes : Nat → Int32) (reads : Nat → Int32) : Option (Int32 × (Nat → Int32) × (Nat → Int32)) :=
  b_Mo_writeAll_2 F modes wayKind rowOf F 0 isImageKnown writes reads
abbrev rm_Mo_writeAll : Room := { frames := 2, cells := 0, slots := 0, locals := 47 }
set_option maxHeartbeats 4000000 in
set_option maxRecDepth 100000 in
theorem c_Mo_writeAll (l : Launch) (dC : Nat → ClassId) (dI : Nat → Nat → Nat) (cI cJ : ClassId) (a_p0 a_rowOf a_writes a_reads z_upsOf z_downsOf z_numberOf z_matrix z_other z_newUps z_newDowns z_newNumber z_found z_image z_imagePlace : Nat) (sz : Nat) (thrown : Int32) (modes : Int32) (products : Int32) (wayKind : Int32) (isImageKnown : Int32) (madeState : Int32) (madeSign : Int32) (newMany : Int32) (imagePower : Int32) (imageMany : Int32) (imageWires : Int32) (rowOf : Nat → Int32) (writes : Nat → Int32) (reads : Nat → Int32) (F : Nat) (u : Int32 × (Nat → Int32) × (Nat → Int32)) (hf : f_Mo_writeAll F modes wayKind isImageKnown rowOf writes reads = some u) : Met l y_Mo_writeAll (Cond.code y_Mo_writeAll prog_6_method_23_code 2 none :: T0) rm_Mo_writeAll (va_Pc [.ref a_p0] (Ww (dC, dI) [(a_p0, .inr (4, [.int thrown, .int modes, .int products, .ref z_upsOf, .ref z_downsOf, .ref z_numberOf, .int wayKind, .ref a_rowOf, .ref a_writes, .ref a_reads, .int isImageKnown, .int madeState, .int madeSign, .ref z_matrix, .ref z_other, .int newMany, .ref z_newUps, .ref z_newDowns, .ref z_newNumber, .ref z_found, .ref z_image, .ref z_imagePlace, .int imagePower, .int imageMany, .int imageWires])), (a_rowOf, .inl (cI, 8, .inl rowOf)), (a_writes, .inl (cI, 256, .inl writes)), (a_reads, .inl (cI, 256, .inl reads))] [(cI, .int), (cJ, .long)] sz)) (va_Qv (fun _ : Unit => True) (Bw (dC, dI) [(cI, .int), (cJ, .long)] (va_A [(a_p0, .inr (4, [.int thrown, .int modes, .int products, .ref z_upsOf, .ref z_downsOf, .ref z_numberOf, .int wayKind, .ref a_rowOf, .ref a_writes, .ref a_reads, .int isImageKnown, .int madeState, .int madeSign, .ref z_matrix, .ref z_other, .int newMany, .ref z_newUps, .ref z_newDowns, .ref z_newNumber, .ref z_found, .ref z_image, .ref z_imagePlace, .int imagePower, .int imageMany, .int imageWires])), (a_rowOf, .inl (cI, 8, .inl rowOf)), (a_writes, .inl (cI, 256, .inl writes)), (a_reads, .inl (cI, 256, .inl reads))] sz) (fun w1 => w1 = [(a_p0, .inr (4, [.int thrown, .int modes, .int products, .ref z_upsOf, .ref z_downsOf, .ref z_numberOf, .int wayKind, .ref a_rowOf, .ref a_writes, .ref a_reads, .int u.1, .int madeState, .int madeSign, .ref z_matrix, .ref z_other, .int newMany, .ref z_newUps, .ref z_newDowns, .ref z_newNumber, .ref z_found, .ref z_image, .ref z_imagePlace, .int imagePower, .int imageMany, .int imageWires])), (a_rowOf, .inl (cI, 8, .inl rowOf)), (a_writes, .inl (cI, 256, .inl u.2.1)), (a_reads, .inl (cI, 256, .inl u.2.2))])) (va_A [(a_p0, .inr (4, [.int thrown, .int modes, .int products, .ref z_upsOf, .ref z_downsOf, .ref z_numberOf, .int wayKind, .ref a_rowOf, .ref a_writes, .ref a_reads, .int isImageKnown, .int madeState, .int madeSign, .ref z_matrix, .ref z_other, .int newMany, .ref z_newUps, .ref z_newDowns, .ref z_newNumber, .ref z_found, .ref z_image, .ref z_imagePlace, .int imagePower, .int imageMany, .int imageWires])), (a_rowOf, .inl (cI, 8, .inl rowOf)), (a_writes, .inl (cI, 256, .inl writes)), (a_reads, .inl (cI, 256, .inl reads))] sz)) 0 0 (va_A [(a_p0, .inr (4, [.int thrown, .int modes, .int products, .ref z_upsOf, .ref z_downsOf, .ref z_numberOf, .int wayKind, .ref a_rowOf, .ref a_writes, .ref a_reads, .int isImageKnown, .int madeState, .int madeSign, .ref z_matrix, .ref z_other, .int newMany, .ref z_newUps, .ref z_newDowns, .ref z_newNumber, .ref z_found, .ref z_image, .ref z_imagePlace, .int imagePower, .int imageMany, .int imageWires])), (a_rowOf, .inl (cI, 8, .inl rowOf)), (a_writes, .inl (cI, 256, .inl writes)), (a_reads, .inl (cI, 256, .inl reads))] sz) := by
  refine Met.ofW (cc := prog_6_method_23_code) (maxL := 2) (ret := none) (by decide) rfl ?_
  intro p e s m args below meth c s₁ B hml hv
  obtain ⟨rfl, hsz, hP, hK, hD0, hNW⟩ := hv
  have hx := B.exec
  have hb := B.bytes
  have hr := B.returns
  have hts := atoms_spec (ws := Cond.code y_Mo_writeAll prog_6_method_23_code 2 none :: T0) B.pre
  have ht0 : ∀ w ∈ T0, w.before ([.ref a_p0] : List Value).toArray s = true := fun w h => hts w (List.mem_cons_of_mem _ h)
  have hown : s.vm.findClass "FermionMapsModel" = some m.cls := findClass_of_methodNamed B.named
  have hlocks := B.notSynchronized
  subst hsz
  have hD := hD0.self (sz := s.heap.size)
  generalize hAe : va_A [(a_p0, .inr (4, [.int thrown, .int modes, .int products, .ref z_upsOf, .ref z_downsOf, .ref z_numberOf, .int wayKind, .ref a_rowOf, .ref a_writes, .ref a_reads, .int isImageKnown, .int madeState, .int madeSign, .ref z_matrix, .ref z_other, .int newMany, .ref z_newUps, .ref z_newDowns, .ref z_newNumber, .ref z_found, .ref z_image, .ref z_imagePlace, .int imagePower, .int imageMany, .int imageWires])), (a_rowOf, .inl (cI, 8, .inl rowOf)), (a_writes, .inl (cI, 256, .inl writes)), (a_reads, .inl (cI, 256, .inl reads))] s.heap.size = A at hD ⊢
  have hA : ∀ q : Nat, s.heap.size ≤ q → A q := fun q h => by rw [← hAe]; exact Or.inr h
  have hS : va_S A s.heap s.heap [] := va_S.rf
  have hl := lv_entry ([.ref a_p0]) (n := 2) (Nat.le_of_ble_eq_true rfl)
  rw [lg_entry_eq]
  generalize (lg_sl ([.ref a_p0]) ++ List.replicate (2 - (lg_sl ([.ref a_p0])).length) Slot.unset).toArray = ls at hl ⊢
  have hl : lv_has ls 2 [(0, .ref a_p0)] := hl
  refine W.nameQ (fun Q hQ => ?_)
  have B_2 : ∀ (n : Nat), ∀ (x1 : Int32) (isImageKnown : Int32) (writes : Nat → Int32) (reads : Nat → Int32) (H : Heap) (locs : List Loc) (ls : Array Slot), b_Mo_writeAll_2 F modes wayKind rowOf n x1 isImageKnown writes reads = some u → va_P (dC, dI) cls [(a_p0, .inr (4, [.int thrown, .int modes, .int products, .ref z_upsOf, .ref z_downsOf, .ref z_numberOf, .int wayKind, .ref a_rowOf, .ref a_writes, .ref a_reads, .int isImageKnown, .int madeState, .int madeSign, .ref z_matrix, .ref z_other, .int newMany, .ref z_newUps, .ref z_newDowns, .ref z_newNumber, .ref z_found, .ref z_image, .ref z_imagePlace, .int imagePower, .int imageMany, .int imageWires])), (a_rowOf, .inl (cI, 8, .inl rowOf)), (a_writes, .inl (cI, 256, .inl writes)), (a_reads, .inl (cI, 256, .inl reads))] H → va_D A [(a_p0, .inr (4, [.int thrown, .int modes, .int products, .ref z_upsOf, .ref z_downsOf, .ref z_numberOf, .int wayKind, .ref a_rowOf, .ref a_writes, .ref a_reads, .int isImageKnown, .int madeState, .int madeSign, .ref z_matrix, .ref z_other, .int newMany, .ref z_newUps, .ref z_newDowns, .ref z_newNumber, .ref z_found, .ref z_image, .ref z_imagePlace, .int imagePower, .int imageMany, .int imageWires])), (a_rowOf, .inl (cI, 8, .inl rowOf)), (a_writes, .inl (cI, 256, .inl writes)), (a_reads, .inl (cI, 256, .inl reads))] → va_S A s.heap H locs → lv_has ls 2 [(0, .ref a_p0), (1, .int x1)] → W p l e (headSpec (Cond.code y_Mo_writeAll prog_6_method_23_code 2 none :: T0) rm_Mo_writeAll).room s m ([.ref a_p0] : List Value).toArray below meth c H locs 0 0 Q (F0 m 2 ls []) := by
    intro n
    induction n with
    | zero =>
      intro x1 isImageKnown writes reads H locs ls hf hP hD hS hl
      exact no_fuel hf
    | succ n ih =>
      intro x1 isImageKnown writes reads H locs ls hf hP hD hS hl
      rw [b_Mo_writeAll_2] at hf
      refine lv_iload_n hx hb d_Mo_writeAll_2 rfl (lv_at hl 1 rfl) ?_
      refine lv_aload_n hx hb d_Mo_writeAll_3 rfl (lv_at hl 0 rfl) ?_
      obtain ⟨u_1, h_u_1, hf⟩ := bd hf
      refine rd_i (rdV_run (As := []) (rest := [.int x1]) ⟨hx, hb, hml, hown, ht0⟩ (c_Mo_states l dC dI cI cJ a_p0 z_upsOf z_downsOf z_numberOf a_rowOf a_writes a_reads z_matrix z_other z_newUps z_newDowns z_newNumber z_found z_image z_imagePlace thrown modes products wayKind isImageKnown madeState madeSign newMany imagePower imageMany imageWires F u_1 h_u_1) (cwV 0 ht0 (gV m_442 m_444 (T0_pr (y := ⟨"FermionMapsModel", "states", "()I"⟩) (i := 4) rfl rfl) m_5 m_445) rfl rfl rfl (by decide +kernel) ⟨Nat.le_of_ble_eq_true rfl, Nat.le_of_ble_eq_true rfl⟩) hK hNW hP [0] rfl (ci := 4) (q0 := 0) rfl rfl rfl hl.1 rfl (Nat.le_of_ble_eq_true rfl) d_Mo_writeAll_4 ⟨Nat.zero_le _, Nat.zero_le _⟩) ?_
      refine lv_icmp_ge (tgt := 43) hx hb d_Mo_writeAll_7 (by decide) (fun c_2 => ?_) (fun c_2 => ?_)
      · replace hf := if_t c_2 hf
        refine lv_aload_n hx hb d_Mo_writeAll_43 rfl (lv_at hl 0 rfl) ?_
        refine lv_iconst (v := 0) hx hb d_Mo_writeAll_44 (by decide) ?_
        refine va_put (D := (dC, dI)) (ci := 4) (v := .int 0) (ty := .boolean) (C := "FermionMapsModel") (T := F_Mo) (N := 25) hx hb ht0 i_Mo t_Mo t_Mo_ok n_Mo hown hK hP hD hS 0 rfl rfl 10 (by decide) (ht0 _ m_467) (fun _ h9 => h9) rfl (by decide +kernel) rfl rfl (Nat.le_of_ble_eq_true rfl) d_Mo_writeAll_45 (fun H locs hP hD hS => ?_)
        have hP : va_P (dC, dI) cls [(a_p0, .inr (4, [.int thrown, .int modes, .int products, .ref z_upsOf, .ref z_downsOf, .ref z_numberOf, .int wayKind, .ref a_rowOf, .ref a_writes, .ref a_reads, .int 0, .int madeState, .int madeSign, .ref z_matrix, .ref z_other, .int newMany, .ref z_newUps, .ref z_newDowns, .ref z_newNumber, .ref z_found, .ref z_image, .ref z_imagePlace, .int imagePower, .int imageMany, .int imageWires])), (a_rowOf, .inl (cI, 8, .inl rowOf)), (a_writes, .inl (cI, 256, .inl writes)), (a_reads, .inl (cI, 256, .inl reads))] H := hP
        have hD : va_D A [(a_p0, .inr (4, [.int thrown, .int modes, .int products, .ref z_upsOf, .ref z_downsOf, .ref z_numberOf, .int wayKind, .ref a_rowOf, .ref a_writes, .ref a_reads, .int 0, .int madeState, .int madeSign, .ref z_matrix, .ref z_other, .int newMany, .ref z_newUps, .ref z_newDowns, .ref z_newNumber, .ref z_found, .ref z_image, .ref z_imagePlace, .int imagePower, .int imageMany, .int imageWires])), (a_rowOf, .inl (cI, 8, .inl rowOf)), (a_writes, .inl (cI, 256, .inl writes)), (a_reads, .inl (cI, 256, .inl reads))] := hD
        have hu := Option.some.inj hf
        subst hu
        exact rw_v hQ rfl hP hD hK hS hx hb hr hlocks d_Mo_writeAll_48
      · replace hf := if_f c_2 hf
        refine lv_aload_n hx hb d_Mo_writeAll_10 rfl (lv_at hl 0 rfl) ?_
        refine va_get (D := (dC, dI)) (ci := 4) (v := .ref a_writes) (C := "FermionMapsModel") (T := F_Mo) (N := 25) hx hb ht0 i_Mo hown hK hP 0 rfl rfl 8 (by decide) (ht0 _ m_465) (fun _ h9 => h9) rfl d_Mo_writeAll_11 ?_
        refine lv_iload_n hx hb d_Mo_writeAll_14 rfl (lv_at hl 1 rfl) ?_
        refine lv_aload_n hx hb d_Mo_writeAll_15 rfl (lv_at hl 0 rfl) ?_
        refine lv_aload_n hx hb d_Mo_writeAll_16 rfl (lv_at hl 0 rfl) ?_
        refine va_get (D := (dC, dI)) (ci := 4) (v := .int wayKind) (C := "FermionMapsModel") (T := F_Mo) (N := 25) hx hb ht0 i_Mo hown hK hP 0 rfl rfl 6 (by decide) (ht0 _ m_463) (fun _ h9 => h9) rfl d_Mo_writeAll_17 ?_
        refine lv_iload_n hx hb d_Mo_writeAll_20 rfl (lv_at hl 1 rfl) ?_
        obtain ⟨u_3, h_u_3, hf⟩ := bd hf
        refine rd_i (rdV_run (As := [.int wayKind, .int x1]) (rest := [.int x1, .ref a_writes]) ⟨hx, hb, hml, hown, ht0⟩ (c_Mo_write l dC dI cI cJ a_p0 a_rowOf z_upsOf z_downsOf z_numberOf a_writes a_reads z_matrix z_other z_newUps z_newDowns z_newNumber z_found z_image z_imagePlace thrown modes products wayKind isImageKnown madeState madeSign newMany imagePower imageMany imageWires rowOf wayKind x1 F u_3 h_u_3) (cwV 2 ht0 (gV m_446 m_448 (T0_pr (y := ⟨"FermionMapsModel", "write", "(II)I"⟩) (i := 5) rfl rfl) m_5 m_449) rfl rfl rfl (by decide +kernel) ⟨Nat.le_of_ble_eq_true rfl, Nat.le_of_ble_eq_true rfl⟩) hK hNW hP [0, 1] rfl (ci := 4) (q0 := 0) rfl rfl rfl hl.1 rfl (Nat.le_of_ble_eq_true rfl) d_Mo_writeAll_21 ⟨Nat.zero_le _, Nat.zero_le _⟩) ?_
        obtain ⟨hi_4, hf⟩ := ckI_ok hf
        refine va_iast hx hb hK hP hD hS 2 0 rfl rfl hi_4 d_Mo_writeAll_24 (fun H locs hP hD hS => ?_)
        have hP : va_P (dC, dI) cls [(a_p0, .inr (4, [.int thrown, .int modes, .int products, .ref z_upsOf, .ref z_downsOf, .ref z_numberOf, .int wayKind, .ref a_rowOf, .ref a_writes, .ref a_reads, .int isImageKnown, .int madeState, .int madeSign, .ref z_matrix, .ref z_other, .int newMany, .ref z_newUps, .ref z_newDowns, .ref z_newNumber, .ref z_found, .ref z_image, .ref z_imagePlace, .int imagePower, .int imageMany, .int imageWires])), (a_rowOf, .inl (cI, 8, .inl rowOf)), (a_writes, .inl (cI, 256, .inl (upd writes x1.toNatClampNeg u_3))), (a_reads, .inl (cI, 256, .inl reads))] H := hP
        have hD : va_D A [(a_p0, .inr (4, [.int thrown, .int modes, .int products, .ref z_upsOf, .ref z_downsOf, .ref z_numberOf, .int wayKind, .ref a_rowOf, .ref a_writes, .ref a_reads, .int isImageKnown, .int madeState, .int madeSign, .ref z_matrix, .ref z_other, .int newMany, .ref z_newUps, .ref z_newDowns, .ref z_newNumber, .ref z_found, .ref z_image, .ref z_imagePlace, .int imagePower, .int imageMany, .int imageWires])), (a_rowOf, .inl (cI, 8, .inl rowOf)), (a_writes, .inl (cI, 256, .inl (upd writes x1.toNatClampNeg u_3))), (a_reads, .inl (cI, 256, .inl reads))] := hD
        refine lv_aload_n hx hb d_Mo_writeAll_25 rfl (lv_at hl 0 rfl) ?_
        refine va_get (D := (dC, dI)) (ci := 4) (v := .ref a_reads) (C := "FermionMapsModel") (T := F_Mo) (N := 25) hx hb ht0 i_Mo hown hK hP 0 rfl rfl 9 (by decide) (ht0 _ m_466) (fun _ h9 => h9) rfl d_Mo_writeAll_26 ?_
        refine lv_aload_n hx hb d_Mo_writeAll_29 rfl (lv_at hl 0 rfl) ?_
        refine va_get (D := (dC, dI)) (ci := 4) (v := .ref a_writes) (C := "FermionMapsModel") (T := F_Mo) (N := 25) hx hb ht0 i_Mo hown hK hP 0 rfl rfl 8 (by decide) (ht0 _ m_465) (fun _ h9 => h9) rfl d_Mo_writeAll_30 ?_
        refine lv_iload_n hx hb d_Mo_writeAll_33 rfl (lv_at hl 1 rfl) ?_
        obtain ⟨hi_5, hf⟩ := ckI_ok hf
        refine va_iald hx hb hK hP 2 0 rfl rfl hi_5 d_Mo_writeAll_34 ?_
        refine lv_iload_n hx hb d_Mo_writeAll_35 rfl (lv_at hl 1 rfl) ?_
        obtain ⟨hi_6, hf⟩ := ckI_ok hf
        refine va_iast hx hb hK hP hD hS 3 0 rfl rfl hi_6 d_Mo_writeAll_36 (fun H locs hP hD hS => ?_)
        have hP : va_P (dC, dI) cls [(a_p0, .inr (4, [.int thrown, .int modes, .int products, .ref z_upsOf, .ref z_downsOf, .ref z_numberOf, .int wayKind, .ref a_rowOf, .ref a_writes, .ref a_reads, .int isImageKnown, .int madeState, .int madeSign, .ref z_matrix, .ref z_other, .int newMany, .ref z_newUps, .ref z_newDowns, .ref z_newNumber, .ref z_found, .ref z_image, .ref z_imagePlace, .int imagePower, .int imageMany, .int imageWires])), (a_rowOf, .inl (cI, 8, .inl rowOf)), (a_writes, .inl (cI, 256, .inl (upd writes x1.toNatClampNeg u_3))), (a_reads, .inl (cI, 256, .inl (upd reads ((upd writes x1.toNatClampNeg u_3) x1.toNatClampNeg).toNatClampNeg x1)))] H := hP
        have hD : va_D A [(a_p0, .inr (4, [.int thrown, .int modes, .int products, .ref z_upsOf, .ref z_downsOf, .ref z_numberOf, .int wayKind, .ref a_rowOf, .ref a_writes, .ref a_reads, .int isImageKnown, .int madeState, .int madeSign, .ref z_matrix, .ref z_other, .int newMany, .ref z_newUps, .ref z_newDowns, .ref z_newNumber, .ref z_found, .ref z_image, .ref z_imagePlace, .int imagePower, .int imageMany, .int imageWires])), (a_rowOf, .inl (cI, 8, .inl rowOf)), (a_writes, .inl (cI, 256, .inl (upd writes x1.toNatClampNeg u_3))), (a_reads, .inl (cI, 256, .inl (upd reads ((upd writes x1.toNatClampNeg u_3) x1.toNatClampNeg).toNatClampNeg x1)))] := hD
        obtain ⟨x1_7, e_x1_7⟩ : ∃ y : Int32, y = x1 + 1 := ⟨_, rfl⟩
        replace hf := nm_eq e_x1_7 hf
        refine lv_iinc (v := x1_7) (lv' := [(1, .int x1_7), (0, .ref a_p0)]) hx hb d_Mo_writeAll_37 hl (k := 1) rfl (by rw [e_x1_7]; rfl) (by decide) rfl (fun ls hl => ?_)
        refine lv_goto (tgt := 2) hx hb d_Mo_writeAll_40 (by decide) ?_
        exact ih x1_7 isImageKnown (upd writes x1.toNatClampNeg u_3) (upd reads ((upd writes x1.toNatClampNeg u_3) x1.toNatClampNeg).toNatClampNeg x1) H locs ls hf hP hD hS (lv_sub hl [1, 0] rfl)
  rw [f_Mo_writeAll] at hf
  refine lv_iconst (v := 0) hx hb d_Mo_writeAll_0 (by decide) ?_
  refine lv_istore_n (lv' := [(1, .int 0), (0, .ref a_p0)]) hx hb d_Mo_writeAll_1 rfl hl (by decide) rfl (fun ls hl => ?_)
  exact B_2 F 0 isImageKnown writes reads s.heap [] ls hf hP hD hS (lv_sub hl [1, 0] rfl)

/-! FermionMapsModel.start(I)V -/
def b_Mo_start_12 (F : Nat) : Nat → Int32 → Int32 → Int32 → Int32 → Int32 → (Nat → Int32) → (Nat → Int32) → (Nat → Int32) → Option (Int32 × Int32 × Int32 × Int32 × (Nat → Int32) × (Nat → Int32) × (Nat → Int32))
  | 0, _, _, _, _, _, _, _, _ => none
  | n + 1, x2, modes, products, wayKind, isImageKnown, rowOf, writes, reads =>
    if 8 ≤ x2 then
      (f_Mo_writeAll F modes 0 isImageKnown rowOf writes reads).bind fun u_2 =>
      some (modes, products, 0, u_2.1, rowOf, u_2.2.1, u_2.2.2)
    else
      nm (((1 : Int32) <<< (x2 &&& 31)) : Int32) fun t_3 =>
      ckI x2 8 <|
      nm (x2 + 1 : Int32) fun x2_5 =>
      b_Mo_start_12 F n x2_5 modes products wayKind isImageKnown (upd rowOf x2.toNatClampNeg t_3) writes reads
def f_Mo_start (F : Nat) (modes : Int32) (products : Int32) (wayKind : Int32) (isImageKnown : Int32) (rowOf : Nat → Int32) (writes : Nat → Int32) (reads : Nat → Int32) (p1 : Int32) : Option (Int32 × Int32 × Int32 × Int32 × (Nat → Int32) × (Nat → Int32) × (Nat → Int32)) :=
  b_Mo_start_12 F F 0 p1 0 wayKind isImageKnown rowOf writes reads
abbrev rm_Mo_start : Room := { frames := 3, cells := 0, slots := 0, locals := 68 }
set_option maxHeartbeats 4000000 in
set_option maxRecDepth 100000 in
theorem c_Mo_start (l : Launch) (dC : Nat → ClassId) (dI : Nat → Nat → Nat) (cI cJ : ClassId) (a_p0 a_rowOf a_writes a_reads z_upsOf z_downsOf z_numberOf z_matrix z_other z_newUps z_newDowns z_newNumber z_found z_image z_imagePlace : Nat) (sz : Nat) (thrown : Int32) (modes : Int32) (products : Int32) (wayKind : Int32) (isImageKnown : Int32) (madeState : Int32) (madeSign : Int32) (newMany : Int32) (imagePower : Int32) (imageMany : Int32) (imageWires : Int32) (rowOf : Nat → Int32) (writes : Nat → Int32) (reads : Nat → Int32) (p1 : Int32) (F : Nat) (u : Int32 × Int32 × Int32 × Int32 × (Nat → Int32) × (Nat → Int32) × (Nat → Int32)) (hf : f_Mo_start F modes products wayKind isImageKnown rowOf writes reads p1 = some u) : Met l y_Mo_start (Cond.code y_Mo_start prog_6_method_6_code 3 none :: T0) rm_Mo_start (va_Pc [.ref a_p0, .int p1] (Ww (dC, dI) [(a_p0, .inr (4, [.int thrown, .int modes, .int products, .ref z_upsOf, .ref z_downsOf, .ref z_numberOf, .int wayKind, .ref a_rowOf, .ref a_writes, .ref a_reads, .int isImageKnown, .int madeState, .int madeSign, .ref z_matrix, .ref z_other, .int newMany, .ref z_newUps, .ref z_newDowns, .ref z_newNumber, .ref z_found, .ref z_image, .ref z_imagePlace, .int imagePower, .int imageMany, .int imageWires])), (a_rowOf, .inl (cI, 8, .inl rowOf)), (a_writes, .inl (cI, 256, .inl writes)), (a_reads, .inl (cI, 256, .inl reads))] [(cI, .int), (cJ, .long)] sz)) (va_Qv (fun _ : Unit => True) (Bw (dC, dI) [(cI, .int), (cJ, .long)] (va_A [(a_p0, .inr (4, [.int thrown, .int modes, .int products, .ref z_upsOf, .ref z_downsOf, .ref z_numberOf, .int wayKind, .ref a_rowOf, .ref a_writes, .ref a_reads, .int isImageKnown, .int madeState, .int madeSign, .ref z_matrix, .ref z_other, .int newMany, .ref z_newUps, .ref z_newDowns, .ref z_newNumber, .ref z_found, .ref z_image, .ref z_imagePlace, .int imagePower, .int imageMany, .int imageWires])), (a_rowOf, .inl (cI, 8, .inl rowOf)), (a_writes, .inl (cI, 256, .inl writes)), (a_reads, .inl (cI, 256, .inl reads))] sz) (fun w1 => w1 = [(a_p0, .inr (4, [.int thrown, .int u.1, .int u.2.1, .ref z_upsOf, .ref z_downsOf, .ref z_numberOf, .int u.2.2.1, .ref a_rowOf, .ref a_writes, .ref a_reads, .int u.2.2.2.1, .int madeState, .int madeSign, .ref z_matrix, .ref z_other, .int newMany, .ref z_newUps, .ref z_newDowns, .ref z_newNumber, .ref z_found, .ref z_image, .ref z_imagePlace, .int imagePower, .int imageMany, .int imageWires])), (a_rowOf, .inl (cI, 8, .inl u.2.2.2.2.1)), (a_writes, .inl (cI, 256, .inl u.2.2.2.2.2.1)), (a_reads, .inl (cI, 256, .inl u.2.2.2.2.2.2))])) (va_A [(a_p0, .inr (4, [.int thrown, .int modes, .int products, .ref z_upsOf, .ref z_downsOf, .ref z_numberOf, .int wayKind, .ref a_rowOf, .ref a_writes, .ref a_reads, .int isImageKnown, .int madeState, .int madeSign, .ref z_matrix, .ref z_other, .int newMany, .ref z_newUps, .ref z_newDowns, .ref z_newNumber, .ref z_found, .ref z_image, .ref z_imagePlace, .int imagePower, .int imageMany, .int imageWires])), (a_rowOf, .inl (cI, 8, .inl rowOf)), (a_writes, .inl (cI, 256, .inl writes)), (a_reads, .inl (cI, 256, .inl reads))] sz)) 0 0 (va_A [(a_p0, .inr (4, [.int thrown, .int modes, .int products, .ref z_upsOf, .ref z_downsOf, .ref z_numberOf, .int wayKind, .ref a_rowOf, .ref a_writes, .ref a_reads, .int isImageKnown, .int madeState, .int madeSign, .ref z_matrix, .ref z_other, .int newMany, .ref z_newUps, .ref z_newDowns, .ref z_newNumber, .ref z_found, .ref z_image, .ref z_imagePlace, .int imagePower, .int imageMany, .int imageWires])), (a_rowOf, .inl (cI, 8, .inl rowOf)), (a_writes, .inl (cI, 256, .inl writes)), (a_reads, .inl (cI, 256, .inl reads))] sz) := by
  refine Met.ofW (cc := prog_6_method_6_code) (maxL := 3) (ret := none) (by decide) rfl ?_
  intro p e s m args below meth c s₁ B hml hv
  obtain ⟨rfl, hsz, hP, hK, hD0, hNW⟩ := hv
  have hx := B.exec
  have hb := B.bytes
  have hr := B.returns
  have hts := atoms_spec (ws := Cond.code y_Mo_start prog_6_method_6_code 3 none :: T0) B.pre
  have ht0 : ∀ w ∈ T0, w.before ([.ref a_p0, .int p1] : List Value).toArray s = true := fun w h => hts w (List.mem_cons_of_mem _ h)
  have hown : s.vm.findClass "FermionMapsModel" = some m.cls := findClass_of_methodNamed B.named
  have hlocks := B.notSynchronized
  subst hsz
  have hD := hD0.self (sz := s.heap.size)
  generalize hAe : va_A [(a_p0, .inr (4, [.int thrown, .int modes, .int products, .ref z_upsOf, .ref z_downsOf, .ref z_numberOf, .int wayKind, .ref a_rowOf, .ref a_writes, .ref a_reads, .int isImageKnown, .int madeState, .int madeSign, .ref z_matrix, .ref z_other, .int newMany, .ref z_newUps, .ref z_newDowns, .ref z_newNumber, .ref z_found, .ref z_image, .ref z_imagePlace, .int imagePower, .int imageMany, .int imageWires])), (a_rowOf, .inl (cI, 8, .inl rowOf)), (a_writes, .inl (cI, 256, .inl writes)), (a_reads, .inl (cI, 256, .inl reads))] s.heap.size = A at hD ⊢
  have hA : ∀ q : Nat, s.heap.size ≤ q → A q := fun q h => by rw [← hAe]; exact Or.inr h
  have hS : va_S A s.heap s.heap [] := va_S.rf
  have hl := lv_entry ([.ref a_p0, .int p1]) (n := 3) (Nat.le_of_ble_eq_true rfl)
  rw [lg_entry_eq]
  generalize (lg_sl ([.ref a_p0, .int p1]) ++ List.replicate (3 - (lg_sl ([.ref a_p0, .int p1])).length) Slot.unset).toArray = ls at hl ⊢
  have hl : lv_has ls 3 [(0, .ref a_p0), (1, .int p1)] := hl
  refine W.nameQ (fun Q hQ => ?_)
  have B_12 : ∀ (n : Nat), ∀ (x2 : Int32) (modes : Int32) (products : Int32) (wayKind : Int32) (isImageKnown : Int32) (rowOf : Nat → Int32) (writes : Nat → Int32) (reads : Nat → Int32) (H : Heap) (locs : List Loc) (ls : Array Slot), b_Mo_start_12 F n x2 modes products wayKind isImageKnown rowOf writes reads = some u → va_P (dC, dI) cls [(a_p0, .inr (4, [.int thrown, .int modes, .int products, .ref z_upsOf, .ref z_downsOf, .ref z_numberOf, .int wayKind, .ref a_rowOf, .ref a_writes, .ref a_reads, .int isImageKnown, .int madeState, .int madeSign, .ref z_matrix, .ref z_other, .int newMany, .ref z_newUps, .ref z_newDowns, .ref z_newNumber, .ref z_found, .ref z_image, .ref z_imagePlace, .int imagePower, .int imageMany, .int imageWires])), (a_rowOf, .inl (cI, 8, .inl rowOf)), (a_writes, .inl (cI, 256, .inl writes)), (a_reads, .inl (cI, 256, .inl reads))] H → va_D A [(a_p0, .inr (4, [.int thrown, .int modes, .int products, .ref z_upsOf, .ref z_downsOf, .ref z_numberOf, .int wayKind, .ref a_rowOf, .ref a_writes, .ref a_reads, .int isImageKnown, .int madeState, .int madeSign, .ref z_matrix, .ref z_other, .int newMany, .ref z_newUps, .ref z_newDowns, .ref z_newNumber, .ref z_found, .ref z_image, .ref z_imagePlace, .int imagePower, .int imageMany, .int imageWires])), (a_rowOf, .inl (cI, 8, .inl rowOf)), (a_writes, .inl (cI, 256, .inl writes)), (a_reads, .inl (cI, 256, .inl reads))] → va_S A s.heap H locs → lv_has ls 3 [(0, .ref a_p0), (2, .int x2)] → W p l e (headSpec (Cond.code y_Mo_start prog_6_method_6_code 3 none :: T0) rm_Mo_start).room s m ([.ref a_p0, .int p1] : List Value).toArray below meth c H locs 0 0 Q (F0 m 12 ls []) := by
    intro n
    induction n with
    | zero =>
      intro x2 modes products wayKind isImageKnown rowOf writes reads H locs ls hf hP hD hS hl
      exact no_fuel hf
    | succ n ih =>
      intro x2 modes products wayKind isImageKnown rowOf writes reads H locs ls hf hP hD hS hl
      rw [b_Mo_start_12] at hf
      refine lv_iload_n hx hb d_Mo_start_12 rfl (lv_at hl 1 rfl) ?_
      refine lv_bipush (v := 8) hx hb d_Mo_start_13 (by decide) ?_
      refine lv_icmp_ge (tgt := 33) hx hb d_Mo_start_15 (by decide) (fun c_1 => ?_) (fun c_1 => ?_)
      · replace hf := if_t c_1 hf
        refine lv_aload_n hx hb d_Mo_start_33 rfl (lv_at hl 0 rfl) ?_
        refine lv_iconst (v := 0) hx hb d_Mo_start_34 (by decide) ?_
        refine va_put (D := (dC, dI)) (ci := 4) (v := .int 0) (ty := .int) (C := "FermionMapsModel") (T := F_Mo) (N := 25) hx hb ht0 i_Mo t_Mo t_Mo_ok n_Mo hown hK hP hD hS 0 rfl rfl 6 (by decide) (ht0 _ m_463) (fun _ h9 => h9) rfl (by decide +kernel) rfl rfl (Nat.le_of_ble_eq_true rfl) d_Mo_start_35 (fun H locs hP hD hS => ?_)
        have hP : va_P (dC, dI) cls [(a_p0, .inr (4, [.int thrown, .int modes, .int products, .ref z_upsOf, .ref z_downsOf, .ref z_numberOf, .int 0, .ref a_rowOf, .ref a_writes, .ref a_reads, .int isImageKnown, .int madeState, .int madeSign, .ref z_matrix, .ref z_other, .int newMany, .ref z_newUps, .ref z_newDowns, .ref z_newNumber, .ref z_found, .ref z_image, .ref z_imagePlace, .int imagePower, .int imageMany, .int imageWires])), (a_rowOf, .inl (cI, 8, .inl rowOf)), (a_writes, .inl (cI, 256, .inl writes)), (a_reads, .inl (cI, 256, .inl reads))] H := hP
        have hD : va_D A [(a_p0, .inr (4, [.int thrown, .int modes, .int products, .ref z_upsOf, .ref z_downsOf, .ref z_numberOf, .int 0, .ref a_rowOf, .ref a_writes, .ref a_reads, .int isImageKnown, .int madeState, .int madeSign, .ref z_matrix, .ref z_other, .int newMany, .ref z_newUps, .ref z_newDowns, .ref z_newNumber, .ref z_found, .ref z_image, .ref z_imagePlace, .int imagePower, .int imageMany, .int imageWires])), (a_rowOf, .inl (cI, 8, .inl rowOf)), (a_writes, .inl (cI, 256, .inl writes)), (a_reads, .inl (cI, 256, .inl reads))] := hD
        refine lv_aload_n hx hb d_Mo_start_38 rfl (lv_at hl 0 rfl) ?_
        obtain ⟨u_2, h_u_2, hf⟩ := bd hf
        refine wr_v (wr := []) (wrV_run (As := []) (rest := []) ⟨hx, hb, hml, hown, ht0⟩ (c_Mo_writeAll l dC dI cI cJ a_p0 a_rowOf a_writes a_reads z_upsOf z_downsOf z_numberOf z_matrix z_other z_newUps z_newDowns z_newNumber z_found z_image z_imagePlace H.size thrown modes products 0 isImageKnown madeState madeSign newMany imagePower imageMany imageWires rowOf writes reads F u_2 h_u_2) (cwV 0 ht0 (gV m_438 m_440 (T0_pr (y := ⟨"FermionMapsModel", "writeAll", "()V"⟩) (i := 3) rfl rfl) m_5 m_441) rfl rfl rfl (by decide +kernel) ⟨Nat.le_of_ble_eq_true rfl, Nat.le_of_ble_eq_true rfl⟩) hK hNW hP hD [0, 1, 2, 3] rfl rfl (by decide) (ci := 4) (q0 := 0) rfl rfl rfl hl.1 rfl (Nat.le_of_ble_eq_true rfl) d_Mo_start_39 ⟨Nat.zero_le _, Nat.zero_le _⟩) hP hD hS hA [0, 1, 2, 3] [] rfl rfl (by decide) (by decide) (fun w1 H locs hw hP hD hS => ?_)
        obtain rfl := hw
        have hP : va_P (dC, dI) cls [(a_p0, .inr (4, [.int thrown, .int modes, .int products, .ref z_upsOf, .ref z_downsOf, .ref z_numberOf, .int 0, .ref a_rowOf, .ref a_writes, .ref a_reads, .int u_2.1, .int madeState, .int madeSign, .ref z_matrix, .ref z_other, .int newMany, .ref z_newUps, .ref z_newDowns, .ref z_newNumber, .ref z_found, .ref z_image, .ref z_imagePlace, .int imagePower, .int imageMany, .int imageWires])), (a_rowOf, .inl (cI, 8, .inl rowOf)), (a_writes, .inl (cI, 256, .inl u_2.2.1)), (a_reads, .inl (cI, 256, .inl u_2.2.2))] H := hP.sub [0, 1, 2, 3] rfl
        have hD : va_D A [(a_p0, .inr (4, [.int thrown, .int modes, .int products, .ref z_upsOf, .ref z_downsOf, .ref z_numberOf, .int 0, .ref a_rowOf, .ref a_writes, .ref a_reads, .int u_2.1, .int madeState, .int madeSign, .ref z_matrix, .ref z_other, .int newMany, .ref z_newUps, .ref z_newDowns, .ref z_newNumber, .ref z_found, .ref z_image, .ref z_imagePlace, .int imagePower, .int imageMany, .int imageWires])), (a_rowOf, .inl (cI, 8, .inl rowOf)), (a_writes, .inl (cI, 256, .inl u_2.2.1)), (a_reads, .inl (cI, 256, .inl u_2.2.2))] := hD.sub [0, 1, 2, 3] (by decide) rfl
        have hu := Option.some.inj hf
        subst hu
        exact rw_v hQ rfl hP hD hK hS hx hb hr hlocks d_Mo_start_42
      · replace hf := if_f c_1 hf
        refine lv_aload_n hx hb d_Mo_start_18 rfl (lv_at hl 0 rfl) ?_
        refine va_get (D := (dC, dI)) (ci := 4) (v := .ref a_rowOf) (C := "FermionMapsModel") (T := F_Mo) (N := 25) hx hb ht0 i_Mo hown hK hP 0 rfl rfl 7 (by decide) (ht0 _ m_464) (fun _ h9 => h9) rfl d_Mo_start_19 ?_
        refine lv_iload_n hx hb d_Mo_start_22 rfl (lv_at hl 1 rfl) ?_
        refine lv_iconst (v := 1) hx hb d_Mo_start_23 (by decide) ?_
        refine lv_iload_n hx hb d_Mo_start_24 rfl (lv_at hl 1 rfl) ?_
        refine lv_ishl hx hb d_Mo_start_25 ?_
        refine lv_topi (fun t_3 e_t_3 => ?_)
        replace hf := nm_eq e_t_3 hf
        obtain ⟨hi_4, hf⟩ := ckI_ok hf
        refine va_iast hx hb hK hP hD hS 1 0 rfl rfl hi_4 d_Mo_start_26 (fun H locs hP hD hS => ?_)
        have hP : va_P (dC, dI) cls [(a_p0, .inr (4, [.int thrown, .int modes, .int products, .ref z_upsOf, .ref z_downsOf, .ref z_numberOf, .int wayKind, .ref a_rowOf, .ref a_writes, .ref a_reads, .int isImageKnown, .int madeState, .int madeSign, .ref z_matrix, .ref z_other, .int newMany, .ref z_newUps, .ref z_newDowns, .ref z_newNumber, .ref z_found, .ref z_image, .ref z_imagePlace, .int imagePower, .int imageMany, .int imageWires])), (a_rowOf, .inl (cI, 8, .inl (upd rowOf x2.toNatClampNeg t_3))), (a_writes, .inl (cI, 256, .inl writes)), (a_reads, .inl (cI, 256, .inl reads))] H := hP
        have hD : va_D A [(a_p0, .inr (4, [.int thrown, .int modes, .int products, .ref z_upsOf, .ref z_downsOf, .ref z_numberOf, .int wayKind, .ref a_rowOf, .ref a_writes, .ref a_reads, .int isImageKnown, .int madeState, .int madeSign, .ref z_matrix, .ref z_other, .int newMany, .ref z_newUps, .ref z_newDowns, .ref z_newNumber, .ref z_found, .ref z_image, .ref z_imagePlace, .int imagePower, .int imageMany, .int imageWires])), (a_rowOf, .inl (cI, 8, .inl (upd rowOf x2.toNatClampNeg t_3))), (a_writes, .inl (cI, 256, .inl writes)), (a_reads, .inl (cI, 256, .inl reads))] := hD
        obtain ⟨x2_5, e_x2_5⟩ : ∃ y : Int32, y = x2 + 1 := ⟨_, rfl⟩
        replace hf := nm_eq e_x2_5 hf
        refine lv_iinc (v := x2_5) (lv' := [(2, .int x2_5), (0, .ref a_p0)]) hx hb d_Mo_start_27 hl (k := 1) rfl (by rw [e_x2_5]; rfl) (by decide) rfl (fun ls hl => ?_)
        refine lv_goto (tgt := 12) hx hb d_Mo_start_30 (by decide) ?_
        exact ih x2_5 modes products wayKind isImageKnown (upd rowOf x2.toNatClampNeg t_3) writes reads H locs ls hf hP hD hS (lv_sub hl [1, 0] rfl)
  rw [f_Mo_start] at hf
  refine lv_aload_n hx hb d_Mo_start_0 rfl (lv_at hl 0 rfl) ?_
  refine lv_iload_n hx hb d_Mo_start_1 rfl (lv_at hl 1 rfl) ?_
  refine va_put (D := (dC, dI)) (ci := 4) (v := .int p1) (ty := .int) (C := "FermionMapsModel") (T := F_Mo) (N := 25) hx hb ht0 i_Mo t_Mo t_Mo_ok n_Mo hown hK hP hD hS 0 rfl rfl 1 (by decide) (ht0 _ m_458) (fun _ h9 => h9) rfl (by decide +kernel) rfl rfl (Nat.le_of_ble_eq_true rfl) d_Mo_start_2 (fun H locs hP hD hS => ?_)
  have hP : va_P (dC, dI) cls [(a_p0, .inr (4, [.int thrown, .int p1, .int products, .ref z_upsOf, .ref z_downsOf, .ref z_numberOf, .int wayKind, .ref a_rowOf, .ref a_writes, .ref a_reads, .int isImageKnown, .int madeState, .int madeSign, .ref z_matrix, .ref z_other, .int newMany, .ref z_newUps, .ref z_newDowns, .ref z_newNumber, .ref z_found, .ref z_image, .ref z_imagePlace, .int imagePower, .int imageMany, .int imageWires])), (a_rowOf, .inl (cI, 8, .inl rowOf)), (a_writes, .inl (cI, 256, .inl writes)), (a_reads, .inl (cI, 256, .inl reads))] H := hP
  have hD : va_D A [(a_p0, .inr (4, [.int thrown, .int p1, .int products, .ref z_upsOf, .ref z_downsOf, .ref z_numberOf, .int wayKind, .ref a_rowOf, .ref a_writes, .ref a_reads, .int isImageKnown, .int madeState, .int madeSign, .ref z_matrix, .ref z_other, .int newMany, .ref z_newUps, .ref z_newDowns, .ref z_newNumber, .ref z_found, .ref z_image, .ref z_imagePlace, .int imagePower, .int imageMany, .int imageWires])), (a_rowOf, .inl (cI, 8, .inl rowOf)), (a_writes, .inl (cI, 256, .inl writes)), (a_reads, .inl (cI, 256, .inl reads))] := hD
  refine lv_aload_n hx hb d_Mo_start_5 rfl (lv_at hl 0 rfl) ?_
  refine lv_iconst (v := 0) hx hb d_Mo_start_6 (by decide) ?_
  refine va_put (D := (dC, dI)) (ci := 4) (v := .int 0) (ty := .int) (C := "FermionMapsModel") (T := F_Mo) (N := 25) hx hb ht0 i_Mo t_Mo t_Mo_ok n_Mo hown hK hP hD hS 0 rfl rfl 2 (by decide) (ht0 _ m_459) (fun _ h9 => h9) rfl (by decide +kernel) rfl rfl (Nat.le_of_ble_eq_true rfl) d_Mo_start_7 (fun H locs hP hD hS => ?_)
  have hP : va_P (dC, dI) cls [(a_p0, .inr (4, [.int thrown, .int p1, .int 0, .ref z_upsOf, .ref z_downsOf, .ref z_numberOf, .int wayKind, .ref a_rowOf, .ref a_writes, .ref a_reads, .int isImageKnown, .int madeState, .int madeSign, .ref z_matrix, .ref z_other, .int newMany, .ref z_newUps, .ref z_newDowns, .ref z_newNumber, .ref z_found, .ref z_image, .ref z_imagePlace, .int imagePower, .int imageMany, .int imageWires])), (a_rowOf, .inl (cI, 8, .inl rowOf)), (a_writes, .inl (cI, 256, .inl writes)), (a_reads, .inl (cI, 256, .inl reads))] H := hP
  have hD : va_D A [(a_p0, .inr (4, [.int thrown, .int p1, .int 0, .ref z_upsOf, .ref z_downsOf, .ref z_numberOf, .int wayKind, .ref a_rowOf, .ref a_writes, .ref a_reads, .int isImageKnown, .int madeState, .int madeSign, .ref z_matrix, .ref z_other, .int newMany, .ref z_newUps, .ref z_newDowns, .ref z_newNumber, .ref z_found, .ref z_image, .ref z_imagePlace, .int imagePower, .int imageMany, .int imageWires])), (a_rowOf, .inl (cI, 8, .inl rowOf)), (a_writes, .inl (cI, 256, .inl writes)), (a_reads, .inl (cI, 256, .inl reads))] := hD
  refine lv_iconst (v := 0) hx hb d_Mo_start_10 (by decide) ?_
  refine lv_istore_n (lv' := [(2, .int 0), (0, .ref a_p0), (1, .int p1)]) hx hb d_Mo_start_11 rfl hl (by decide) rfl (fun ls hl => ?_)
  exact B_12 F 0 p1 0 wayKind isImageKnown rowOf writes reads H locs ls hf hP hD hS (lv_sub hl [1, 0] rfl)

/-! FermionMapsModel.begin(I)Z -/
def f_Mo_begin (F : Nat) (thrown : Int32) (modes : Int32) (products : Int32) (wayKind : Int32) (isImageKnown : Int32) (rowOf : Nat → Int32) (writes : Nat → Int32) (reads : Nat → Int32) (p1 : Int32) : Option (Int32 × Int32 × Int32 × Int32 × Int32 × Int32 × (Nat → Int32) × (Nat → Int32) × (Nat → Int32)) :=
  if p1 < 1 then
    some (0, 0, modes, products, wayKind, isImageKnown, rowOf, writes, reads)
  else
    if p1 ≤ 8 then
      (f_Mo_start F modes products wayKind isImageKnown rowOf writes reads p1).bind fun u_3 =>
      some (1, 0, u_3.1, u_3.2.1, u_3.2.2.1, u_3.2.2.2.1, u_3.2.2.2.2.1, u_3.2.2.2.2.2.1, u_3.2.2.2.2.2.2)
    else
      some (0, 0, modes, products, wayKind, isImageKnown, rowOf, writes, reads)
abbrev rm_Mo_begin : Room := { frames := 4, cells := 0, slots := 0, locals := 90 }
set_option maxHeartbeats 4000000 in
set_option maxRecDepth 100000 in
theorem c_Mo_begin (l : Launch) (dC : Nat → ClassId) (dI : Nat → Nat → Nat) (cI cJ : ClassId) (a_p0 a_rowOf a_writes a_reads z_upsOf z_downsOf z_numberOf z_matrix z_other z_newUps z_newDowns z_newNumber z_found z_image z_imagePlace : Nat) (sz : Nat) (thrown : Int32) (modes : Int32) (products : Int32) (wayKind : Int32) (isImageKnown : Int32) (madeState : Int32) (madeSign : Int32) (newMany : Int32) (imagePower : Int32) (imageMany : Int32) (imageWires : Int32) (rowOf : Nat → Int32) (writes : Nat → Int32) (reads : Nat → Int32) (p1 : Int32) (F : Nat) (u : Int32 × Int32 × Int32 × Int32 × Int32 × Int32 × (Nat → Int32) × (Nat → Int32) × (Nat → Int32)) (hf : f_Mo_begin F thrown modes products wayKind isImageKnown rowOf writes reads p1 = some u) : Met l y_Mo_begin (Cond.code y_Mo_begin prog_6_method_7_code 2 (some .boolean) :: T0) rm_Mo_begin (va_Pc [.ref a_p0, .int p1] (Ww (dC, dI) [(a_p0, .inr (4, [.int thrown, .int modes, .int products, .ref z_upsOf, .ref z_downsOf, .ref z_numberOf, .int wayKind, .ref a_rowOf, .ref a_writes, .ref a_reads, .int isImageKnown, .int madeState, .int madeSign, .ref z_matrix, .ref z_other, .int newMany, .ref z_newUps, .ref z_newDowns, .ref z_newNumber, .ref z_found, .ref z_image, .ref z_imagePlace, .int imagePower, .int imageMany, .int imageWires])), (a_rowOf, .inl (cI, 8, .inl rowOf)), (a_writes, .inl (cI, 256, .inl writes)), (a_reads, .inl (cI, 256, .inl reads))] [(cI, .int), (cJ, .long)] sz)) (va_Qi (fun r (_ : Unit) => r = u.1) (Bw (dC, dI) [(cI, .int), (cJ, .long)] (va_A [(a_p0, .inr (4, [.int thrown, .int modes, .int products, .ref z_upsOf, .ref z_downsOf, .ref z_numberOf, .int wayKind, .ref a_rowOf, .ref a_writes, .ref a_reads, .int isImageKnown, .int madeState, .int madeSign, .ref z_matrix, .ref z_other, .int newMany, .ref z_newUps, .ref z_newDowns, .ref z_newNumber, .ref z_found, .ref z_image, .ref z_imagePlace, .int imagePower, .int imageMany, .int imageWires])), (a_rowOf, .inl (cI, 8, .inl rowOf)), (a_writes, .inl (cI, 256, .inl writes)), (a_reads, .inl (cI, 256, .inl reads))] sz) (fun w1 => w1 = [(a_p0, .inr (4, [.int u.2.1, .int u.2.2.1, .int u.2.2.2.1, .ref z_upsOf, .ref z_downsOf, .ref z_numberOf, .int u.2.2.2.2.1, .ref a_rowOf, .ref a_writes, .ref a_reads, .int u.2.2.2.2.2.1, .int madeState, .int madeSign, .ref z_matrix, .ref z_other, .int newMany, .ref z_newUps, .ref z_newDowns, .ref z_newNumber, .ref z_found, .ref z_image, .ref z_imagePlace, .int imagePower, .int imageMany, .int imageWires])), (a_rowOf, .inl (cI, 8, .inl u.2.2.2.2.2.2.1)), (a_writes, .inl (cI, 256, .inl u.2.2.2.2.2.2.2.1)), (a_reads, .inl (cI, 256, .inl u.2.2.2.2.2.2.2.2))])) (va_A [(a_p0, .inr (4, [.int thrown, .int modes, .int products, .ref z_upsOf, .ref z_downsOf, .ref z_numberOf, .int wayKind, .ref a_rowOf, .ref a_writes, .ref a_reads, .int isImageKnown, .int madeState, .int madeSign, .ref z_matrix, .ref z_other, .int newMany, .ref z_newUps, .ref z_newDowns, .ref z_newNumber, .ref z_found, .ref z_image, .ref z_imagePlace, .int imagePower, .int imageMany, .int imageWires])), (a_rowOf, .inl (cI, 8, .inl rowOf)), (a_writes, .inl (cI, 256, .inl writes)), (a_reads, .inl (cI, 256, .inl reads))] sz)) 0 0 (va_A [(a_p0, .inr (4, [.int thrown, .int modes, .int products, .ref z_upsOf, .ref z_downsOf, .ref z_numberOf, .int wayKind, .ref a_rowOf, .ref a_writes, .ref a_reads, .int isImageKnown, .int madeState, .int madeSign, .ref z_matrix, .ref z_other, .int newMany, .ref z_newUps, .ref z_newDowns, .ref z_newNumber, .ref z_found, .ref z_image, .ref z_imagePlace, .int imagePower, .int imageMany, .int imageWires])), (a_rowOf, .inl (cI, 8, .inl rowOf)), (a_writes, .inl (cI, 256, .inl writes)), (a_reads, .inl (cI, 256, .inl reads))] sz) := by
  refine Met.ofW (cc := prog_6_method_7_code) (maxL := 2) (ret := (some .boolean)) (by decide) rfl ?_
  intro p e s m args below meth c s₁ B hml hv
  obtain ⟨rfl, hsz, hP, hK, hD0, hNW⟩ := hv
  have hx := B.exec
  have hb := B.bytes
  have hr := B.returns
  have hts := atoms_spec (ws := Cond.code y_Mo_begin prog_6_method_7_code 2 (some .boolean) :: T0) B.pre
  have ht0 : ∀ w ∈ T0, w.before ([.ref a_p0, .int p1] : List Value).toArray s = true := fun w h => hts w (List.mem_cons_of_mem _ h)
  have hown : s.vm.findClass "FermionMapsModel" = some m.cls := findClass_of_methodNamed B.named
  have hlocks := B.notSynchronized
  subst hsz
  have hD := hD0.self (sz := s.heap.size)
  generalize hAe : va_A [(a_p0, .inr (4, [.int thrown, .int modes, .int products, .ref z_upsOf, .ref z_downsOf, .ref z_numberOf, .int wayKind, .ref a_rowOf, .ref a_writes, .ref a_reads, .int isImageKnown, .int madeState, .int madeSign, .ref z_matrix, .ref z_other, .int newMany, .ref z_newUps, .ref z_newDowns, .ref z_newNumber, .ref z_found, .ref z_image, .ref z_imagePlace, .int imagePower, .int imageMany, .int imageWires])), (a_rowOf, .inl (cI, 8, .inl rowOf)), (a_writes, .inl (cI, 256, .inl writes)), (a_reads, .inl (cI, 256, .inl reads))] s.heap.size = A at hD ⊢
  have hA : ∀ q : Nat, s.heap.size ≤ q → A q := fun q h => by rw [← hAe]; exact Or.inr h
  have hS : va_S A s.heap s.heap [] := va_S.rf
  have hl := lv_entry ([.ref a_p0, .int p1]) (n := 2) (Nat.le_of_ble_eq_true rfl)
  rw [lg_entry_eq]
  generalize (lg_sl ([.ref a_p0, .int p1]) ++ List.replicate (2 - (lg_sl ([.ref a_p0, .int p1])).length) Slot.unset).toArray = ls at hl ⊢
  have hl : lv_has ls 2 [(0, .ref a_p0), (1, .int p1)] := hl
  refine W.nameQ (fun Q hQ => ?_)
  rw [f_Mo_begin] at hf
  refine lv_aload_n hx hb d_Mo_begin_0 rfl (lv_at hl 0 rfl) ?_
  refine lv_iconst (v := 0) hx hb d_Mo_begin_1 (by decide) ?_
  refine va_put (D := (dC, dI)) (ci := 4) (v := .int 0) (ty := .int) (C := "FermionMapsModel") (T := F_Mo) (N := 25) hx hb ht0 i_Mo t_Mo t_Mo_ok n_Mo hown hK hP hD hS 0 rfl rfl 0 (by decide) (ht0 _ m_457) (fun _ h9 => h9) rfl (by decide +kernel) rfl rfl (Nat.le_of_ble_eq_true rfl) d_Mo_begin_2 (fun H locs hP hD hS => ?_)
  have hP : va_P (dC, dI) cls [(a_p0, .inr (4, [.int 0, .int modes, .int products, .ref z_upsOf, .ref z_downsOf, .ref z_numberOf, .int wayKind, .ref a_rowOf, .ref a_writes, .ref a_reads, .int isImageKnown, .int madeState, .int madeSign, .ref z_matrix, .ref z_other, .int newMany, .ref z_newUps, .ref z_newDowns, .ref z_newNumber, .ref z_found, .ref z_image, .ref z_imagePlace, .int imagePower, .int imageMany, .int imageWires])), (a_rowOf, .inl (cI, 8, .inl rowOf)), (a_writes, .inl (cI, 256, .inl writes)), (a_reads, .inl (cI, 256, .inl reads))] H := hP
  have hD : va_D A [(a_p0, .inr (4, [.int 0, .int modes, .int products, .ref z_upsOf, .ref z_downsOf, .ref z_numberOf, .int wayKind, .ref a_rowOf, .ref a_writes, .ref a_reads, .int isImageKnown, .int madeState, .int madeSign, .ref z_matrix, .ref z_other, .int newMany, .ref z_newUps, .ref z_newDowns, .ref z_newNumber, .ref z_found, .ref z_image, .ref z_imagePlace, .int imagePower, .int imageMany, .int imageWires])), (a_rowOf, .inl (cI, 8, .inl rowOf)), (a_writes, .inl (cI, 256, .inl writes)), (a_reads, .inl (cI, 256, .inl reads))] := hD
  refine lv_iload_n hx hb d_Mo_begin_5 rfl (lv_at hl 1 rfl) ?_
  refine lv_iconst (v := 1) hx hb d_Mo_begin_6 (by decide) ?_
  refine lv_icmp_lt (tgt := 16) hx hb d_Mo_begin_7 (by decide) (fun c_1 => ?_) (fun c_1 => ?_)
  · replace hf := if_t c_1 hf
    refine lv_iconst (v := 0) hx hb d_Mo_begin_16 (by decide) ?_
    have hu := Option.some.inj hf
    subst hu
    exact rw_z hQ rfl rfl rfl hP hD hK hS hx hb hr hlocks d_Mo_begin_17
  · replace hf := if_f c_1 hf
    refine lv_iload_n hx hb d_Mo_begin_10 rfl (lv_at hl 1 rfl) ?_
    refine lv_bipush (v := 8) hx hb d_Mo_begin_11 (by decide) ?_
    refine lv_icmp_le (tgt := 18) hx hb d_Mo_begin_13 (by decide) (fun c_2 => ?_) (fun c_2 => ?_)
    · replace hf := if_t c_2 hf
      refine lv_aload_n hx hb d_Mo_begin_18 rfl (lv_at hl 0 rfl) ?_
      refine lv_iload_n hx hb d_Mo_begin_19 rfl (lv_at hl 1 rfl) ?_
      obtain ⟨u_3, h_u_3, hf⟩ := bd hf
      refine wr_v (wr := []) (wrV_run (As := [.int p1]) (rest := []) ⟨hx, hb, hml, hown, ht0⟩ (c_Mo_start l dC dI cI cJ a_p0 a_rowOf a_writes a_reads z_upsOf z_downsOf z_numberOf z_matrix z_other z_newUps z_newDowns z_newNumber z_found z_image z_imagePlace H.size 0 modes products wayKind isImageKnown madeState madeSign newMany imagePower imageMany imageWires rowOf writes reads p1 F u_3 h_u_3) (cwV 1 ht0 (gV m_434 m_436 (T0_pr (y := ⟨"FermionMapsModel", "start", "(I)V"⟩) (i := 2) rfl rfl) m_5 m_437) rfl rfl rfl (by decide +kernel) ⟨Nat.le_of_ble_eq_true rfl, Nat.le_of_ble_eq_true rfl⟩) hK hNW hP hD [0, 1, 2, 3] rfl rfl (by decide) (ci := 4) (q0 := 0) rfl rfl rfl hl.1 rfl (Nat.le_of_ble_eq_true rfl) d_Mo_begin_20 ⟨Nat.zero_le _, Nat.zero_le _⟩) hP hD hS hA [0, 1, 2, 3] [] rfl rfl (by decide) (by decide) (fun w1 H locs hw hP hD hS => ?_)
      obtain rfl := hw
      have hP : va_P (dC, dI) cls [(a_p0, .inr (4, [.int 0, .int u_3.1, .int u_3.2.1, .ref z_upsOf, .ref z_downsOf, .ref z_numberOf, .int u_3.2.2.1, .ref a_rowOf, .ref a_writes, .ref a_reads, .int u_3.2.2.2.1, .int madeState, .int madeSign, .ref z_matrix, .ref z_other, .int newMany, .ref z_newUps, .ref z_newDowns, .ref z_newNumber, .ref z_found, .ref z_image, .ref z_imagePlace, .int imagePower, .int imageMany, .int imageWires])), (a_rowOf, .inl (cI, 8, .inl u_3.2.2.2.2.1)), (a_writes, .inl (cI, 256, .inl u_3.2.2.2.2.2.1)), (a_reads, .inl (cI, 256, .inl u_3.2.2.2.2.2.2))] H := hP.sub [0, 1, 2, 3] rfl
      have hD : va_D A [(a_p0, .inr (4, [.int 0, .int u_3.1, .int u_3.2.1, .ref z_upsOf, .ref z_downsOf, .ref z_numberOf, .int u_3.2.2.1, .ref a_rowOf, .ref a_writes, .ref a_reads, .int u_3.2.2.2.1, .int madeState, .int madeSign, .ref z_matrix, .ref z_other, .int newMany, .ref z_newUps, .ref z_newDowns, .ref z_newNumber, .ref z_found, .ref z_image, .ref z_imagePlace, .int imagePower, .int imageMany, .int imageWires])), (a_rowOf, .inl (cI, 8, .inl u_3.2.2.2.2.1)), (a_writes, .inl (cI, 256, .inl u_3.2.2.2.2.2.1)), (a_reads, .inl (cI, 256, .inl u_3.2.2.2.2.2.2))] := hD.sub [0, 1, 2, 3] (by decide) rfl
      refine lv_iconst (v := 1) hx hb d_Mo_begin_23 (by decide) ?_
      have hu := Option.some.inj hf
      subst hu
      exact rw_z hQ rfl rfl rfl hP hD hK hS hx hb hr hlocks d_Mo_begin_24
    · replace hf := if_f c_2 hf
      refine lv_iconst (v := 0) hx hb d_Mo_begin_16 (by decide) ?_
      have hu := Option.some.inj hf
      subst hu
      exact rw_z hQ rfl rfl rfl hP hD hK hS hx hb hr hlocks d_Mo_begin_17

/-! FermionMapsModel.isState(I)Z -/
def f_Mo_isState (F : Nat) (modes : Int32) (p1 : Int32) : Option (Int32) :=
  if p1 < 0 then
    some (0)
  else
    (f_Mo_states F modes).bind fun u_2 =>
    if u_2 ≤ p1 then
      some (0)
    else
      some (1)
abbrev rm_Mo_isState : Room := { frames := 1, cells := 0, slots := 0, locals := 20 }
set_option maxHeartbeats 4000000 in
set_option maxRecDepth 100000 in
theorem c_Mo_isState (l : Launch) (dC : Nat → ClassId) (dI : Nat → Nat → Nat) (cI cJ : ClassId) (a_p0 z_upsOf z_downsOf z_numberOf z_rowOf z_writes z_reads z_matrix z_other z_newUps z_newDowns z_newNumber z_found z_image z_imagePlace : Nat) (thrown : Int32) (modes : Int32) (products : Int32) (wayKind : Int32) (isImageKnown : Int32) (madeState : Int32) (madeSign : Int32) (newMany : Int32) (imagePower : Int32) (imageMany : Int32) (imageWires : Int32) (p1 : Int32) (F : Nat) (u : Int32) (hf : f_Mo_isState F modes p1 = some u) : Met l y_Mo_isState (Cond.code y_Mo_isState prog_6_method_5_code 2 (some .boolean) :: T0) rm_Mo_isState (va_Pc [.ref a_p0, .int p1] (Wr (dC, dI) [(a_p0, .inr (4, [.int thrown, .int modes, .int products, .ref z_upsOf, .ref z_downsOf, .ref z_numberOf, .int wayKind, .ref z_rowOf, .ref z_writes, .ref z_reads, .int isImageKnown, .int madeState, .int madeSign, .ref z_matrix, .ref z_other, .int newMany, .ref z_newUps, .ref z_newDowns, .ref z_newNumber, .ref z_found, .ref z_image, .ref z_imagePlace, .int imagePower, .int imageMany, .int imageWires]))] [(cI, .int), (cJ, .long)])) (vp_Si (fun r => r = u)) 0 0 (fun _ => False) := by
  refine Met.ofW (cc := prog_6_method_5_code) (maxL := 2) (ret := (some .boolean)) (by decide) rfl ?_
  intro p e s m args below meth c s₁ B hml hv
  obtain ⟨rfl, hP, hK, hNW⟩ := hv
  have hx := B.exec
  have hb := B.bytes
  have hr := B.returns
  have hts := atoms_spec (ws := Cond.code y_Mo_isState prog_6_method_5_code 2 (some .boolean) :: T0) B.pre
  have ht0 : ∀ w ∈ T0, w.before ([.ref a_p0, .int p1] : List Value).toArray s = true := fun w h => hts w (List.mem_cons_of_mem _ h)
  have hown : s.vm.findClass "FermionMapsModel" = some m.cls := findClass_of_methodNamed B.named
  have hlocks := B.notSynchronized
  have hl := lv_entry ([.ref a_p0, .int p1]) (n := 2) (Nat.le_of_ble_eq_true rfl)
  rw [lg_entry_eq]
  generalize (lg_sl ([.ref a_p0, .int p1]) ++ List.replicate (2 - (lg_sl ([.ref a_p0, .int p1])).length) Slot.unset).toArray = ls at hl ⊢
  have hl : lv_has ls 2 [(0, .ref a_p0), (1, .int p1)] := hl
  refine W.nameQ (fun Q hQ => ?_)
  rw [f_Mo_isState] at hf
  refine lv_iload_n hx hb d_Mo_isState_0 rfl (lv_at hl 1 rfl) ?_
  refine lv_if_lt (tgt := 16) hx hb d_Mo_isState_1 (by decide) (fun c_1 => ?_) (fun c_1 => ?_)
  · replace hf := if_t c_1 hf
    refine lv_iconst (v := 0) hx hb d_Mo_isState_16 (by decide) ?_
    have hu := Option.some.inj hf
    subst hu
    exact rt_z hQ rfl rfl hx hb hr hlocks d_Mo_isState_17
  · replace hf := if_f c_1 hf
    refine lv_iload_n hx hb d_Mo_isState_4 rfl (lv_at hl 1 rfl) ?_
    refine lv_aload_n hx hb d_Mo_isState_5 rfl (lv_at hl 0 rfl) ?_
    obtain ⟨u_2, h_u_2, hf⟩ := bd hf
    refine rd_i (rdV_run (As := []) (rest := [.int p1]) ⟨hx, hb, hml, hown, ht0⟩ (c_Mo_states l dC dI cI cJ a_p0 z_upsOf z_downsOf z_numberOf z_rowOf z_writes z_reads z_matrix z_other z_newUps z_newDowns z_newNumber z_found z_image z_imagePlace thrown modes products wayKind isImageKnown madeState madeSign newMany imagePower imageMany imageWires F u_2 h_u_2) (cwV 0 ht0 (gV m_442 m_444 (T0_pr (y := ⟨"FermionMapsModel", "states", "()I"⟩) (i := 4) rfl rfl) m_5 m_445) rfl rfl rfl (by decide +kernel) ⟨Nat.le_of_ble_eq_true rfl, Nat.le_of_ble_eq_true rfl⟩) hK hNW hP [0] rfl (ci := 4) (q0 := 0) rfl rfl rfl hl.1 rfl (Nat.le_of_ble_eq_true rfl) d_Mo_isState_6 ⟨Nat.zero_le _, Nat.zero_le _⟩) ?_
    refine lv_icmp_ge (tgt := 16) hx hb d_Mo_isState_9 (by decide) (fun c_3 => ?_) (fun c_3 => ?_)
    · replace hf := if_t c_3 hf
      refine lv_iconst (v := 0) hx hb d_Mo_isState_16 (by decide) ?_
      have hu := Option.some.inj hf
      subst hu
      exact rt_z hQ rfl rfl hx hb hr hlocks d_Mo_isState_17
    · replace hf := if_f c_3 hf
      refine lv_iconst (v := 1) hx hb d_Mo_isState_12 (by decide) ?_
      refine lv_goto (tgt := 17) hx hb d_Mo_isState_13 (by decide) ?_
      have hu := Option.some.inj hf
      subst hu
      exact rt_z hQ rfl rfl hx hb hr hlocks d_Mo_isState_17

/-! FermionMapsModel.put(IIJ)Z -/
def f_Mo_put (F : Nat) (newMany : Int32) (newUps : Nat → Int32) (newDowns : Nat → Int32) (newNumber : Nat → Int64) (p1 : Int32) (p2 : Int32) (p3 : Int64) : Option (Int32 × Int32 × (Nat → Int32) × (Nat → Int32) × (Nat → Int64)) :=
  if (lg_cmp p3 0) = 0 then
    some (1, newMany, newUps, newDowns, newNumber)
  else
    if newMany = 60 then
      some (0, newMany, newUps, newDowns, newNumber)
    else
      if 0 < (lg_cmp p3 1000000) then
        some (0, newMany, newUps, newDowns, newNumber)
      else
        if 0 ≤ (lg_cmp p3 (-1000000)) then
          ckI newMany 60 <|
          ckI newMany 60 <|
          ckI newMany 60 <|
          nm ((newMany + 1) : Int32) fun newMany_8 =>
          some (1, newMany_8, (upd newUps newMany.toNatClampNeg p1), (upd newDowns newMany.toNatClampNeg p2), (vp_updL newNumber newMany.toNatClampNeg p3))
        else
          some (0, newMany, newUps, newDowns, newNumber)
abbrev rm_Mo_put : Room := { frames := 0, cells := 0, slots := 0, locals := 0 }
set_option maxHeartbeats 4000000 in
set_option maxRecDepth 100000 in
theorem c_Mo_put (l : Launch) (dC : Nat → ClassId) (dI : Nat → Nat → Nat) (cI cJ : ClassId) (a_p0 a_newUps a_newDowns a_newNumber z_upsOf z_downsOf z_numberOf z_rowOf z_writes z_reads z_matrix z_other z_found z_image z_imagePlace : Nat) (sz : Nat) (thrown : Int32) (modes : Int32) (products : Int32) (wayKind : Int32) (isImageKnown : Int32) (madeState : Int32) (madeSign : Int32) (newMany : Int32) (imagePower : Int32) (imageMany : Int32) (imageWires : Int32) (newUps : Nat → Int32) (newDowns : Nat → Int32) (newNumber : Nat → Int64) (p1 : Int32) (p2 : Int32) (p3 : Int64) (F : Nat) (u : Int32 × Int32 × (Nat → Int32) × (Nat → Int32) × (Nat → Int64)) (hf : f_Mo_put F newMany newUps newDowns newNumber p1 p2 p3 = some u) : Met l y_Mo_put (Cond.code y_Mo_put prog_6_method_12_code 5 (some .boolean) :: T0) rm_Mo_put (va_Pc [.ref a_p0, .int p1, .int p2, .long p3] (Ww (dC, dI) [(a_p0, .inr (4, [.int thrown, .int modes, .int products, .ref z_upsOf, .ref z_downsOf, .ref z_numberOf, .int wayKind, .ref z_rowOf, .ref z_writes, .ref z_reads, .int isImageKnown, .int madeState, .int madeSign, .ref z_matrix, .ref z_other, .int newMany, .ref a_newUps, .ref a_newDowns, .ref a_newNumber, .ref z_found, .ref z_image, .ref z_imagePlace, .int imagePower, .int imageMany, .int imageWires])), (a_newUps, .inl (cI, 60, .inl newUps)), (a_newDowns, .inl (cI, 60, .inl newDowns)), (a_newNumber, .inl (cJ, 60, .inr (.inl newNumber)))] [(cI, .int), (cJ, .long)] sz)) (va_Qi (fun r (_ : Unit) => r = u.1) (Bw (dC, dI) [(cI, .int), (cJ, .long)] (va_A [(a_p0, .inr (4, [.int thrown, .int modes, .int products, .ref z_upsOf, .ref z_downsOf, .ref z_numberOf, .int wayKind, .ref z_rowOf, .ref z_writes, .ref z_reads, .int isImageKnown, .int madeState, .int madeSign, .ref z_matrix, .ref z_other, .int newMany, .ref a_newUps, .ref a_newDowns, .ref a_newNumber, .ref z_found, .ref z_image, .ref z_imagePlace, .int imagePower, .int imageMany, .int imageWires])), (a_newUps, .inl (cI, 60, .inl newUps)), (a_newDowns, .inl (cI, 60, .inl newDowns)), (a_newNumber, .inl (cJ, 60, .inr (.inl newNumber)))] sz) (fun w1 => w1 = [(a_p0, .inr (4, [.int thrown, .int modes, .int products, .ref z_upsOf, .ref z_downsOf, .ref z_numberOf, .int wayKind, .ref z_rowOf, .ref z_writes, .ref z_reads, .int isImageKnown, .int madeState, .int madeSign, .ref z_matrix, .ref z_other, .int u.2.1, .ref a_newUps, .ref a_newDowns, .ref a_newNumber, .ref z_found, .ref z_image, .ref z_imagePlace, .int imagePower, .int imageMany, .int imageWires])), (a_newUps, .inl (cI, 60, .inl u.2.2.1)), (a_newDowns, .inl (cI, 60, .inl u.2.2.2.1)), (a_newNumber, .inl (cJ, 60, .inr (.inl u.2.2.2.2)))])) (va_A [(a_p0, .inr (4, [.int thrown, .int modes, .int products, .ref z_upsOf, .ref z_downsOf, .ref z_numberOf, .int wayKind, .ref z_rowOf, .ref z_writes, .ref z_reads, .int isImageKnown, .int madeState, .int madeSign, .ref z_matrix, .ref z_other, .int newMany, .ref a_newUps, .ref a_newDowns, .ref a_newNumber, .ref z_found, .ref z_image, .ref z_imagePlace, .int imagePower, .int imageMany, .int imageWires])), (a_newUps, .inl (cI, 60, .inl newUps)), (a_newDowns, .inl (cI, 60, .inl newDowns)), (a_newNumber, .inl (cJ, 60, .inr (.inl newNumber)))] sz)) 0 0 (va_A [(a_p0, .inr (4, [.int thrown, .int modes, .int products, .ref z_upsOf, .ref z_downsOf, .ref z_numberOf, .int wayKind, .ref z_rowOf, .ref z_writes, .ref z_reads, .int isImageKnown, .int madeState, .int madeSign, .ref z_matrix, .ref z_other, .int newMany, .ref a_newUps, .ref a_newDowns, .ref a_newNumber, .ref z_found, .ref z_image, .ref z_imagePlace, .int imagePower, .int imageMany, .int imageWires])), (a_newUps, .inl (cI, 60, .inl newUps)), (a_newDowns, .inl (cI, 60, .inl newDowns)), (a_newNumber, .inl (cJ, 60, .inr (.inl newNumber)))] sz) := by
  refine Met.ofW (cc := prog_6_method_12_code) (maxL := 5) (ret := (some .boolean)) (by decide) rfl ?_
  intro p e s m args below meth c s₁ B hml hv
  obtain ⟨rfl, hsz, hP, hK, hD0, hNW⟩ := hv
  have hx := B.exec
  have hb := B.bytes
  have hr := B.returns
  have hts := atoms_spec (ws := Cond.code y_Mo_put prog_6_method_12_code 5 (some .boolean) :: T0) B.pre
  have ht0 : ∀ w ∈ T0, w.before ([.ref a_p0, .int p1, .int p2, .long p3] : List Value).toArray s = true := fun w h => hts w (List.mem_cons_of_mem _ h)
  have hown : s.vm.findClass "FermionMapsModel" = some m.cls := findClass_of_methodNamed B.named
  have hlocks := B.notSynchronized
  subst hsz
  have hD := hD0.self (sz := s.heap.size)
  generalize hAe : va_A [(a_p0, .inr (4, [.int thrown, .int modes, .int products, .ref z_upsOf, .ref z_downsOf, .ref z_numberOf, .int wayKind, .ref z_rowOf, .ref z_writes, .ref z_reads, .int isImageKnown, .int madeState, .int madeSign, .ref z_matrix, .ref z_other, .int newMany, .ref a_newUps, .ref a_newDowns, .ref a_newNumber, .ref z_found, .ref z_image, .ref z_imagePlace, .int imagePower, .int imageMany, .int imageWires])), (a_newUps, .inl (cI, 60, .inl newUps)), (a_newDowns, .inl (cI, 60, .inl newDowns)), (a_newNumber, .inl (cJ, 60, .inr (.inl newNumber)))] s.heap.size = A at hD ⊢
  have hA : ∀ q : Nat, s.heap.size ≤ q → A q := fun q h => by rw [← hAe]; exact Or.inr h
  have hS : va_S A s.heap s.heap [] := va_S.rf
  have hl := lv_entry ([.ref a_p0, .int p1, .int p2, .long p3]) (n := 5) (Nat.le_of_ble_eq_true rfl)
  rw [lg_entry_eq]
  generalize (lg_sl ([.ref a_p0, .int p1, .int p2, .long p3]) ++ List.replicate (5 - (lg_sl ([.ref a_p0, .int p1, .int p2, .long p3])).length) Slot.unset).toArray = ls at hl ⊢
  have hl : lv_has ls 5 [(0, .ref a_p0), (1, .int p1), (2, .int p2), (3, .long p3)] := hl
  refine W.nameQ (fun Q hQ => ?_)
  rw [f_Mo_put] at hf
  refine lv_lload_n hx hb d_Mo_put_0 rfl (lv_at hl 3 rfl) ?_
  refine lv_lconst (v := 0) hx hb d_Mo_put_1 (by decide) ?_
  refine W.lcmp hx hb d_Mo_put_2 ?_
  refine lv_if_ne (tgt := 8) hx hb d_Mo_put_3 (by decide) (fun c_1 => ?_) (fun c_1 => ?_)
  · replace hf := if_f c_1 hf
    refine lv_aload_n hx hb d_Mo_put_8 rfl (lv_at hl 0 rfl) ?_
    refine va_get (D := (dC, dI)) (ci := 4) (v := .int newMany) (C := "FermionMapsModel") (T := F_Mo) (N := 25) hx hb ht0 i_Mo hown hK hP 0 rfl rfl 15 (by decide) (ht0 _ m_472) (fun _ h9 => h9) rfl d_Mo_put_9 ?_
    refine lv_bipush (v := 60) hx hb d_Mo_put_12 (by decide) ?_
    refine lv_icmp_eq (tgt := 33) hx hb d_Mo_put_14 (by decide) (fun c_2 => ?_) (fun c_2 => ?_)
    · replace hf := if_t c_2 hf
      refine lv_iconst (v := 0) hx hb d_Mo_put_33 (by decide) ?_
      have hu := Option.some.inj hf
      subst hu
      exact rw_z hQ rfl rfl rfl hP hD hK hS hx hb hr hlocks d_Mo_put_34
    · replace hf := if_f c_2 hf
      refine lv_lload_n hx hb d_Mo_put_17 rfl (lv_at hl 3 rfl) ?_
      refine lv_ldc2 hx hb hown (ht0 _ m_549) d_Mo_put_18 ?_
      refine W.lcmp hx hb d_Mo_put_21 ?_
      refine lv_if_gt (tgt := 33) hx hb d_Mo_put_22 (by decide) (fun c_3 => ?_) (fun c_3 => ?_)
      · replace hf := if_t c_3 hf
        refine lv_iconst (v := 0) hx hb d_Mo_put_33 (by decide) ?_
        have hu := Option.some.inj hf
        subst hu
        exact rw_z hQ rfl rfl rfl hP hD hK hS hx hb hr hlocks d_Mo_put_34
      · replace hf := if_f c_3 hf
        refine lv_lload_n hx hb d_Mo_put_25 rfl (lv_at hl 3 rfl) ?_
        refine lv_ldc2 hx hb hown (ht0 _ m_550) d_Mo_put_26 ?_
        refine W.lcmp hx hb d_Mo_put_29 ?_
        refine lv_if_ge (tgt := 35) hx hb d_Mo_put_30 (by decide) (fun c_4 => ?_) (fun c_4 => ?_)
        · replace hf := if_t c_4 hf
          refine lv_aload_n hx hb d_Mo_put_35 rfl (lv_at hl 0 rfl) ?_
          refine va_get (D := (dC, dI)) (ci := 4) (v := .ref a_newUps) (C := "FermionMapsModel") (T := F_Mo) (N := 25) hx hb ht0 i_Mo hown hK hP 0 rfl rfl 16 (by decide) (ht0 _ m_473) (fun _ h9 => h9) rfl d_Mo_put_36 ?_
          refine lv_aload_n hx hb d_Mo_put_39 rfl (lv_at hl 0 rfl) ?_
          refine va_get (D := (dC, dI)) (ci := 4) (v := .int newMany) (C := "FermionMapsModel") (T := F_Mo) (N := 25) hx hb ht0 i_Mo hown hK hP 0 rfl rfl 15 (by decide) (ht0 _ m_472) (fun _ h9 => h9) rfl d_Mo_put_40 ?_
          refine lv_iload_n hx hb d_Mo_put_43 rfl (lv_at hl 1 rfl) ?_
          obtain ⟨hi_5, hf⟩ := ckI_ok hf
          refine va_iast hx hb hK hP hD hS 1 0 rfl rfl hi_5 d_Mo_put_44 (fun H locs hP hD hS => ?_)
          have hP : va_P (dC, dI) cls [(a_p0, .inr (4, [.int thrown, .int modes, .int products, .ref z_upsOf, .ref z_downsOf, .ref z_numberOf, .int wayKind, .ref z_rowOf, .ref z_writes, .ref z_reads, .int isImageKnown, .int madeState, .int madeSign, .ref z_matrix, .ref z_other, .int newMany, .ref a_newUps, .ref a_newDowns, .ref a_newNumber, .ref z_found, .ref z_image, .ref z_imagePlace, .int imagePower, .int imageMany, .int imageWires])), (a_newUps, .inl (cI, 60, .inl (upd newUps newMany.toNatClampNeg p1))), (a_newDowns, .inl (cI, 60, .inl newDowns)), (a_newNumber, .inl (cJ, 60, .inr (.inl newNumber)))] H := hP
          have hD : va_D A [(a_p0, .inr (4, [.int thrown, .int modes, .int products, .ref z_upsOf, .ref z_downsOf, .ref z_numberOf, .int wayKind, .ref z_rowOf, .ref z_writes, .ref z_reads, .int isImageKnown, .int madeState, .int madeSign, .ref z_matrix, .ref z_other, .int newMany, .ref a_newUps, .ref a_newDowns, .ref a_newNumber, .ref z_found, .ref z_image, .ref z_imagePlace, .int imagePower, .int imageMany, .int imageWires])), (a_newUps, .inl (cI, 60, .inl (upd newUps newMany.toNatClampNeg p1))), (a_newDowns, .inl (cI, 60, .inl newDowns)), (a_newNumber, .inl (cJ, 60, .inr (.inl newNumber)))] := hD
          refine lv_aload_n hx hb d_Mo_put_45 rfl (lv_at hl 0 rfl) ?_
          refine va_get (D := (dC, dI)) (ci := 4) (v := .ref a_newDowns) (C := "FermionMapsModel") (T := F_Mo) (N := 25) hx hb ht0 i_Mo hown hK hP 0 rfl rfl 17 (by decide) (ht0 _ m_474) (fun _ h9 => h9) rfl d_Mo_put_46 ?_
          refine lv_aload_n hx hb d_Mo_put_49 rfl (lv_at hl 0 rfl) ?_
          refine va_get (D := (dC, dI)) (ci := 4) (v := .int newMany) (C := "FermionMapsModel") (T := F_Mo) (N := 25) hx hb ht0 i_Mo hown hK hP 0 rfl rfl 15 (by decide) (ht0 _ m_472) (fun _ h9 => h9) rfl d_Mo_put_50 ?_
          refine lv_iload_n hx hb d_Mo_put_53 rfl (lv_at hl 2 rfl) ?_
          obtain ⟨hi_6, hf⟩ := ckI_ok hf
          refine va_iast hx hb hK hP hD hS 2 0 rfl rfl hi_6 d_Mo_put_54 (fun H locs hP hD hS => ?_)
          have hP : va_P (dC, dI) cls [(a_p0, .inr (4, [.int thrown, .int modes, .int products, .ref z_upsOf, .ref z_downsOf, .ref z_numberOf, .int wayKind, .ref z_rowOf, .ref z_writes, .ref z_reads, .int isImageKnown, .int madeState, .int madeSign, .ref z_matrix, .ref z_other, .int newMany, .ref a_newUps, .ref a_newDowns, .ref a_newNumber, .ref z_found, .ref z_image, .ref z_imagePlace, .int imagePower, .int imageMany, .int imageWires])), (a_newUps, .inl (cI, 60, .inl (upd newUps newMany.toNatClampNeg p1))), (a_newDowns, .inl (cI, 60, .inl (upd newDowns newMany.toNatClampNeg p2))), (a_newNumber, .inl (cJ, 60, .inr (.inl newNumber)))] H := hP
          have hD : va_D A [(a_p0, .inr (4, [.int thrown, .int modes, .int products, .ref z_upsOf, .ref z_downsOf, .ref z_numberOf, .int wayKind, .ref z_rowOf, .ref z_writes, .ref z_reads, .int isImageKnown, .int madeState, .int madeSign, .ref z_matrix, .ref z_other, .int newMany, .ref a_newUps, .ref a_newDowns, .ref a_newNumber, .ref z_found, .ref z_image, .ref z_imagePlace, .int imagePower, .int imageMany, .int imageWires])), (a_newUps, .inl (cI, 60, .inl (upd newUps newMany.toNatClampNeg p1))), (a_newDowns, .inl (cI, 60, .inl (upd newDowns newMany.toNatClampNeg p2))), (a_newNumber, .inl (cJ, 60, .inr (.inl newNumber)))] := hD
          refine lv_aload_n hx hb d_Mo_put_55 rfl (lv_at hl 0 rfl) ?_
          refine va_get (D := (dC, dI)) (ci := 4) (v := .ref a_newNumber) (C := "FermionMapsModel") (T := F_Mo) (N := 25) hx hb ht0 i_Mo hown hK hP 0 rfl rfl 18 (by decide) (ht0 _ m_475) (fun _ h9 => h9) rfl d_Mo_put_56 ?_
          refine lv_aload_n hx hb d_Mo_put_59 rfl (lv_at hl 0 rfl) ?_
          refine va_get (D := (dC, dI)) (ci := 4) (v := .int newMany) (C := "FermionMapsModel") (T := F_Mo) (N := 25) hx hb ht0 i_Mo hown hK hP 0 rfl rfl 15 (by decide) (ht0 _ m_472) (fun _ h9 => h9) rfl d_Mo_put_60 ?_
          refine lv_lload_n hx hb d_Mo_put_63 rfl (lv_at hl 3 rfl) ?_
          obtain ⟨hi_7, hf⟩ := ckI_ok hf
          refine va_last hx hb hK hP hD hS 3 1 rfl rfl hi_7 d_Mo_put_64 (fun H locs hP hD hS => ?_)
          have hP : va_P (dC, dI) cls [(a_p0, .inr (4, [.int thrown, .int modes, .int products, .ref z_upsOf, .ref z_downsOf, .ref z_numberOf, .int wayKind, .ref z_rowOf, .ref z_writes, .ref z_reads, .int isImageKnown, .int madeState, .int madeSign, .ref z_matrix, .ref z_other, .int newMany, .ref a_newUps, .ref a_newDowns, .ref a_newNumber, .ref z_found, .ref z_image, .ref z_imagePlace, .int imagePower, .int imageMany, .int imageWires])), (a_newUps, .inl (cI, 60, .inl (upd newUps newMany.toNatClampNeg p1))), (a_newDowns, .inl (cI, 60, .inl (upd newDowns newMany.toNatClampNeg p2))), (a_newNumber, .inl (cJ, 60, .inr (.inl (vp_updL newNumber newMany.toNatClampNeg p3))))] H := hP
          have hD : va_D A [(a_p0, .inr (4, [.int thrown, .int modes, .int products, .ref z_upsOf, .ref z_downsOf, .ref z_numberOf, .int wayKind, .ref z_rowOf, .ref z_writes, .ref z_reads, .int isImageKnown, .int madeState, .int madeSign, .ref z_matrix, .ref z_other, .int newMany, .ref a_newUps, .ref a_newDowns, .ref a_newNumber, .ref z_found, .ref z_image, .ref z_imagePlace, .int imagePower, .int imageMany, .int imageWires])), (a_newUps, .inl (cI, 60, .inl (upd newUps newMany.toNatClampNeg p1))), (a_newDowns, .inl (cI, 60, .inl (upd newDowns newMany.toNatClampNeg p2))), (a_newNumber, .inl (cJ, 60, .inr (.inl (vp_updL newNumber newMany.toNatClampNeg p3))))] := hD
          refine lv_aload_n hx hb d_Mo_put_65 rfl (lv_at hl 0 rfl) ?_
          refine lv_dup hx hb d_Mo_put_66 rfl ?_
          refine va_get (D := (dC, dI)) (ci := 4) (v := .int newMany) (C := "FermionMapsModel") (T := F_Mo) (N := 25) hx hb ht0 i_Mo hown hK hP 0 rfl rfl 15 (by decide) (ht0 _ m_472) (fun _ h9 => h9) rfl d_Mo_put_67 ?_
          refine lv_iconst (v := 1) hx hb d_Mo_put_70 (by decide) ?_
          refine lv_iadd hx hb d_Mo_put_71 ?_
          refine lv_topi (fun newMany_8 e_newMany_8 => ?_)
          replace hf := nm_eq e_newMany_8 hf
          refine va_put (D := (dC, dI)) (ci := 4) (v := .int newMany_8) (ty := .int) (C := "FermionMapsModel") (T := F_Mo) (N := 25) hx hb ht0 i_Mo t_Mo t_Mo_ok n_Mo hown hK hP hD hS 0 rfl rfl 15 (by decide) (ht0 _ m_472) (fun _ h9 => h9) rfl (by decide +kernel) rfl rfl (Nat.le_of_ble_eq_true rfl) d_Mo_put_72 (fun H locs hP hD hS => ?_)
          have hP : va_P (dC, dI) cls [(a_p0, .inr (4, [.int thrown, .int modes, .int products, .ref z_upsOf, .ref z_downsOf, .ref z_numberOf, .int wayKind, .ref z_rowOf, .ref z_writes, .ref z_reads, .int isImageKnown, .int madeState, .int madeSign, .ref z_matrix, .ref z_other, .int newMany_8, .ref a_newUps, .ref a_newDowns, .ref a_newNumber, .ref z_found, .ref z_image, .ref z_imagePlace, .int imagePower, .int imageMany, .int imageWires])), (a_newUps, .inl (cI, 60, .inl (upd newUps newMany.toNatClampNeg p1))), (a_newDowns, .inl (cI, 60, .inl (upd newDowns newMany.toNatClampNeg p2))), (a_newNumber, .inl (cJ, 60, .inr (.inl (vp_updL newNumber newMany.toNatClampNeg p3))))] H := hP
          have hD : va_D A [(a_p0, .inr (4, [.int thrown, .int modes, .int products, .ref z_upsOf, .ref z_downsOf, .ref z_numberOf, .int wayKind, .ref z_rowOf, .ref z_writes, .ref z_reads, .int isImageKnown, .int madeState, .int madeSign, .ref z_matrix, .ref z_other, .int newMany_8, .ref a_newUps, .ref a_newDowns, .ref a_newNumber, .ref z_found, .ref z_image, .ref z_imagePlace, .int imagePower, .int imageMany, .int imageWires])), (a_newUps, .inl (cI, 60, .inl (upd newUps newMany.toNatClampNeg p1))), (a_newDowns, .inl (cI, 60, .inl (upd newDowns newMany.toNatClampNeg p2))), (a_newNumber, .inl (cJ, 60, .inr (.inl (vp_updL newNumber newMany.toNatClampNeg p3))))] := hD
          refine lv_iconst (v := 1) hx hb d_Mo_put_75 (by decide) ?_
          have hu := Option.some.inj hf
          subst hu
          exact rw_z hQ rfl rfl rfl hP hD hK hS hx hb hr hlocks d_Mo_put_76
        · replace hf := if_f c_4 hf
          refine lv_iconst (v := 0) hx hb d_Mo_put_33 (by decide) ?_
          have hu := Option.some.inj hf
          subst hu
          exact rw_z hQ rfl rfl rfl hP hD hK hS hx hb hr hlocks d_Mo_put_34
  · replace hf := if_t c_1 hf
    refine lv_iconst (v := 1) hx hb d_Mo_put_6 (by decide) ?_
    have hu := Option.some.inj hf
    subst hu
    exact rw_z hQ rfl rfl rfl hP hD hK hS hx hb hr hlocks d_Mo_put_7

/-! FermionMapsModel.take()I -/
def b_Mo_take_10 (F : Nat) (newMany : Int32) (newUps : Nat → Int32) (newDowns : Nat → Int32) (newNumber : Nat → Int64) : Nat → Int32 → Int32 → Int32 → (Nat → Int32) → (Nat → Int32) → (Nat → Int64) → Option (Int32 × Int32 × Int32 × (Nat → Int32) × (Nat → Int32) × (Nat → Int64))
  | 0, _, _, _, _, _, _ => none
  | n + 1, x1, products, isImageKnown, upsOf, downsOf, numberOf =>
    if newMany ≤ x1 then
      some (products, products, 0, upsOf, downsOf, numberOf)
    else
      ckI x1 60 <|
      nm ((newUps x1.toNatClampNeg) : Int32) fun t_3 =>
      ckI x1 60 <|
      ckI x1 60 <|
      nm ((newDowns x1.toNatClampNeg) : Int32) fun t_6 =>
      ckI x1 60 <|
      ckI x1 60 <|
      nm ((newNumber x1.toNatClampNeg) : Int64) fun t_9 =>
      ckI x1 60 <|
      nm (x1 + 1 : Int32) fun x1_11 =>
      b_Mo_take_10 F newMany newUps newDowns newNumber n x1_11 products isImageKnown (upd upsOf x1.toNatClampNeg t_3) (upd downsOf x1.toNatClampNeg t_6) (vp_updL numberOf x1.toNatClampNeg t_9)
def f_Mo_take (F : Nat) (products : Int32) (isImageKnown : Int32) (newMany : Int32) (upsOf : Nat → Int32) (downsOf : Nat → Int32) (numberOf : Nat → Int64) (newUps : Nat → Int32) (newDowns : Nat → Int32) (newNumber : Nat → Int64) : Option (Int32 × Int32 × Int32 × (Nat → Int32) × (Nat → Int32) × (Nat → Int64)) :=
  b_Mo_take_10 F newMany newUps newDowns newNumber F 0 newMany isImageKnown upsOf downsOf numberOf
abbrev rm_Mo_take : Room := { frames := 0, cells := 0, slots := 0, locals := 0 }
set_option maxHeartbeats 4000000 in
set_option maxRecDepth 100000 in
theorem c_Mo_take (l : Launch) (dC : Nat → ClassId) (dI : Nat → Nat → Nat) (cI cJ : ClassId) (a_p0 a_upsOf a_downsOf a_numberOf a_newUps a_newDowns a_newNumber z_rowOf z_writes z_reads z_matrix z_other z_found z_image z_imagePlace : Nat) (sz : Nat) (thrown : Int32) (modes : Int32) (products : Int32) (wayKind : Int32) (isImageKnown : Int32) (madeState : Int32) (madeSign : Int32) (newMany : Int32) (imagePower : Int32) (imageMany : Int32) (imageWires : Int32) (upsOf : Nat → Int32) (downsOf : Nat → Int32) (numberOf : Nat → Int64) (newUps : Nat → Int32) (newDowns : Nat → Int32) (newNumber : Nat → Int64) (F : Nat) (u : Int32 × Int32 × Int32 × (Nat → Int32) × (Nat → Int32) × (Nat → Int64)) (hf : f_Mo_take F products isImageKnown newMany upsOf downsOf numberOf newUps newDowns newNumber = some u) : Met l y_Mo_take (Cond.code y_Mo_take prog_6_method_13_code 2 (some .int) :: T0) rm_Mo_take (va_Pc [.ref a_p0] (Ww (dC, dI) [(a_p0, .inr (4, [.int thrown, .int modes, .int products, .ref a_upsOf, .ref a_downsOf, .ref a_numberOf, .int wayKind, .ref z_rowOf, .ref z_writes, .ref z_reads, .int isImageKnown, .int madeState, .int madeSign, .ref z_matrix, .ref z_other, .int newMany, .ref a_newUps, .ref a_newDowns, .ref a_newNumber, .ref z_found, .ref z_image, .ref z_imagePlace, .int imagePower, .int imageMany, .int imageWires])), (a_upsOf, .inl (cI, 60, .inl upsOf)), (a_downsOf, .inl (cI, 60, .inl downsOf)), (a_numberOf, .inl (cJ, 60, .inr (.inl numberOf))), (a_newUps, .inl (cI, 60, .inl newUps)), (a_newDowns, .inl (cI, 60, .inl newDowns)), (a_newNumber, .inl (cJ, 60, .inr (.inl newNumber)))] [(cI, .int), (cJ, .long)] sz)) (va_Qi (fun r (_ : Unit) => r = u.1) (Bw (dC, dI) [(cI, .int), (cJ, .long)] (va_A [(a_p0, .inr (4, [.int thrown, .int modes, .int products, .ref a_upsOf, .ref a_downsOf, .ref a_numberOf, .int wayKind, .ref z_rowOf, .ref z_writes, .ref z_reads, .int isImageKnown, .int madeState, .int madeSign, .ref z_matrix, .ref z_other, .int newMany, .ref a_newUps, .ref a_newDowns, .ref a_newNumber, .ref z_found, .ref z_image, .ref z_imagePlace, .int imagePower, .int imageMany, .int imageWires])), (a_upsOf, .inl (cI, 60, .inl upsOf)), (a_downsOf, .inl (cI, 60, .inl downsOf)), (a_numberOf, .inl (cJ, 60, .inr (.inl numberOf))), (a_newUps, .inl (cI, 60, .inl newUps)), (a_newDowns, .inl (cI, 60, .inl newDowns)), (a_newNumber, .inl (cJ, 60, .inr (.inl newNumber)))] sz) (fun w1 => w1 = [(a_p0, .inr (4, [.int thrown, .int modes, .int u.2.1, .ref a_upsOf, .ref a_downsOf, .ref a_numberOf, .int wayKind, .ref z_rowOf, .ref z_writes, .ref z_reads, .int u.2.2.1, .int madeState, .int madeSign, .ref z_matrix, .ref z_other, .int newMany, .ref a_newUps, .ref a_newDowns, .ref a_newNumber, .ref z_found, .ref z_image, .ref z_imagePlace, .int imagePower, .int imageMany, .int imageWires])), (a_upsOf, .inl (cI, 60, .inl u.2.2.2.1)), (a_downsOf, .inl (cI, 60, .inl u.2.2.2.2.1)), (a_numberOf, .inl (cJ, 60, .inr (.inl u.2.2.2.2.2))), (a_newUps, .inl (cI, 60, .inl newUps)), (a_newDowns, .inl (cI, 60, .inl newDowns)), (a_newNumber, .inl (cJ, 60, .inr (.inl newNumber)))])) (va_A [(a_p0, .inr (4, [.int thrown, .int modes, .int products, .ref a_upsOf, .ref a_downsOf, .ref a_numberOf, .int wayKind, .ref z_rowOf, .ref z_writes, .ref z_reads, .int isImageKnown, .int madeState, .int madeSign, .ref z_matrix, .ref z_other, .int newMany, .ref a_newUps, .ref a_newDowns, .ref a_newNumber, .ref z_found, .ref z_image, .ref z_imagePlace, .int imagePower, .int imageMany, .int imageWires])), (a_upsOf, .inl (cI, 60, .inl upsOf)), (a_downsOf, .inl (cI, 60, .inl downsOf)), (a_numberOf, .inl (cJ, 60, .inr (.inl numberOf))), (a_newUps, .inl (cI, 60, .inl newUps)), (a_newDowns, .inl (cI, 60, .inl newDowns)), (a_newNumber, .inl (cJ, 60, .inr (.inl newNumber)))] sz)) 0 0 (va_A [(a_p0, .inr (4, [.int thrown, .int modes, .int products, .ref a_upsOf, .ref a_downsOf, .ref a_numberOf, .int wayKind, .ref z_rowOf, .ref z_writes, .ref z_reads, .int isImageKnown, .int madeState, .int madeSign, .ref z_matrix, .ref z_other, .int newMany, .ref a_newUps, .ref a_newDowns, .ref a_newNumber, .ref z_found, .ref z_image, .ref z_imagePlace, .int imagePower, .int imageMany, .int imageWires])), (a_upsOf, .inl (cI, 60, .inl upsOf)), (a_downsOf, .inl (cI, 60, .inl downsOf)), (a_numberOf, .inl (cJ, 60, .inr (.inl numberOf))), (a_newUps, .inl (cI, 60, .inl newUps)), (a_newDowns, .inl (cI, 60, .inl newDowns)), (a_newNumber, .inl (cJ, 60, .inr (.inl newNumber)))] sz) := by
  refine Met.ofW (cc := prog_6_method_13_code) (maxL := 2) (ret := (some .int)) (by decide) rfl ?_
  intro p e s m args below meth c s₁ B hml hv
  obtain ⟨rfl, hsz, hP, hK, hD0, hNW⟩ := hv
  have hx := B.exec
  have hb := B.bytes
  have hr := B.returns
  have hts := atoms_spec (ws := Cond.code y_Mo_take prog_6_method_13_code 2 (some .int) :: T0) B.pre
  have ht0 : ∀ w ∈ T0, w.before ([.ref a_p0] : List Value).toArray s = true := fun w h => hts w (List.mem_cons_of_mem _ h)
  have hown : s.vm.findClass "FermionMapsModel" = some m.cls := findClass_of_methodNamed B.named
  have hlocks := B.notSynchronized
  subst hsz
  have hD := hD0.self (sz := s.heap.size)
  generalize hAe : va_A [(a_p0, .inr (4, [.int thrown, .int modes, .int products, .ref a_upsOf, .ref a_downsOf, .ref a_numberOf, .int wayKind, .ref z_rowOf, .ref z_writes, .ref z_reads, .int isImageKnown, .int madeState, .int madeSign, .ref z_matrix, .ref z_other, .int newMany, .ref a_newUps, .ref a_newDowns, .ref a_newNumber, .ref z_found, .ref z_image, .ref z_imagePlace, .int imagePower, .int imageMany, .int imageWires])), (a_upsOf, .inl (cI, 60, .inl upsOf)), (a_downsOf, .inl (cI, 60, .inl downsOf)), (a_numberOf, .inl (cJ, 60, .inr (.inl numberOf))), (a_newUps, .inl (cI, 60, .inl newUps)), (a_newDowns, .inl (cI, 60, .inl newDowns)), (a_newNumber, .inl (cJ, 60, .inr (.inl newNumber)))] s.heap.size = A at hD ⊢
  have hA : ∀ q : Nat, s.heap.size ≤ q → A q := fun q h => by rw [← hAe]; exact Or.inr h
  have hS : va_S A s.heap s.heap [] := va_S.rf
  have hl := lv_entry ([.ref a_p0]) (n := 2) (Nat.le_of_ble_eq_true rfl)
  rw [lg_entry_eq]
  generalize (lg_sl ([.ref a_p0]) ++ List.replicate (2 - (lg_sl ([.ref a_p0])).length) Slot.unset).toArray = ls at hl ⊢
  have hl : lv_has ls 2 [(0, .ref a_p0)] := hl
  refine W.nameQ (fun Q hQ => ?_)
  have B_10 : ∀ (n : Nat), ∀ (x1 : Int32) (products : Int32) (isImageKnown : Int32) (upsOf : Nat → Int32) (downsOf : Nat → Int32) (numberOf : Nat → Int64) (H : Heap) (locs : List Loc) (ls : Array Slot), b_Mo_take_10 F newMany newUps newDowns newNumber n x1 products isImageKnown upsOf downsOf numberOf = some u → va_P (dC, dI) cls [(a_p0, .inr (4, [.int thrown, .int modes, .int products, .ref a_upsOf, .ref a_downsOf, .ref a_numberOf, .int wayKind, .ref z_rowOf, .ref z_writes, .ref z_reads, .int isImageKnown, .int madeState, .int madeSign, .ref z_matrix, .ref z_other, .int newMany, .ref a_newUps, .ref a_newDowns, .ref a_newNumber, .ref z_found, .ref z_image, .ref z_imagePlace, .int imagePower, .int imageMany, .int imageWires])), (a_upsOf, .inl (cI, 60, .inl upsOf)), (a_downsOf, .inl (cI, 60, .inl downsOf)), (a_numberOf, .inl (cJ, 60, .inr (.inl numberOf))), (a_newUps, .inl (cI, 60, .inl newUps)), (a_newDowns, .inl (cI, 60, .inl newDowns)), (a_newNumber, .inl (cJ, 60, .inr (.inl newNumber)))] H → va_D A [(a_p0, .inr (4, [.int thrown, .int modes, .int products, .ref a_upsOf, .ref a_downsOf, .ref a_numberOf, .int wayKind, .ref z_rowOf, .ref z_writes, .ref z_reads, .int isImageKnown, .int madeState, .int madeSign, .ref z_matrix, .ref z_other, .int newMany, .ref a_newUps, .ref a_newDowns, .ref a_newNumber, .ref z_found, .ref z_image, .ref z_imagePlace, .int imagePower, .int imageMany, .int imageWires])), (a_upsOf, .inl (cI, 60, .inl upsOf)), (a_downsOf, .inl (cI, 60, .inl downsOf)), (a_numberOf, .inl (cJ, 60, .inr (.inl numberOf))), (a_newUps, .inl (cI, 60, .inl newUps)), (a_newDowns, .inl (cI, 60, .inl newDowns)), (a_newNumber, .inl (cJ, 60, .inr (.inl newNumber)))] → va_S A s.heap H locs → lv_has ls 2 [(0, .ref a_p0), (1, .int x1)] → W p l e (headSpec (Cond.code y_Mo_take prog_6_method_13_code 2 (some .int) :: T0) rm_Mo_take).room s m ([.ref a_p0] : List Value).toArray below meth c H locs 0 0 Q (F0 m 10 ls []) := by
    intro n
    induction n with
    | zero =>
      intro x1 products isImageKnown upsOf downsOf numberOf H locs ls hf hP hD hS hl
      exact no_fuel hf
    | succ n ih =>
      intro x1 products isImageKnown upsOf downsOf numberOf H locs ls hf hP hD hS hl
      rw [b_Mo_take_10] at hf
      refine lv_iload_n hx hb d_Mo_take_10 rfl (lv_at hl 1 rfl) ?_
      refine lv_aload_n hx hb d_Mo_take_11 rfl (lv_at hl 0 rfl) ?_
      refine va_get (D := (dC, dI)) (ci := 4) (v := .int newMany) (C := "FermionMapsModel") (T := F_Mo) (N := 25) hx hb ht0 i_Mo hown hK hP 0 rfl rfl 15 (by decide) (ht0 _ m_472) (fun _ h9 => h9) rfl d_Mo_take_12 ?_
      refine lv_icmp_ge (tgt := 60) hx hb d_Mo_take_15 (by decide) (fun c_1 => ?_) (fun c_1 => ?_)
      · replace hf := if_t c_1 hf
        refine lv_aload_n hx hb d_Mo_take_60 rfl (lv_at hl 0 rfl) ?_
        refine lv_iconst (v := 0) hx hb d_Mo_take_61 (by decide) ?_
        refine va_put (D := (dC, dI)) (ci := 4) (v := .int 0) (ty := .boolean) (C := "FermionMapsModel") (T := F_Mo) (N := 25) hx hb ht0 i_Mo t_Mo t_Mo_ok n_Mo hown hK hP hD hS 0 rfl rfl 10 (by decide) (ht0 _ m_467) (fun _ h9 => h9) rfl (by decide +kernel) rfl rfl (Nat.le_of_ble_eq_true rfl) d_Mo_take_62 (fun H locs hP hD hS => ?_)
        have hP : va_P (dC, dI) cls [(a_p0, .inr (4, [.int thrown, .int modes, .int products, .ref a_upsOf, .ref a_downsOf, .ref a_numberOf, .int wayKind, .ref z_rowOf, .ref z_writes, .ref z_reads, .int 0, .int madeState, .int madeSign, .ref z_matrix, .ref z_other, .int newMany, .ref a_newUps, .ref a_newDowns, .ref a_newNumber, .ref z_found, .ref z_image, .ref z_imagePlace, .int imagePower, .int imageMany, .int imageWires])), (a_upsOf, .inl (cI, 60, .inl upsOf)), (a_downsOf, .inl (cI, 60, .inl downsOf)), (a_numberOf, .inl (cJ, 60, .inr (.inl numberOf))), (a_newUps, .inl (cI, 60, .inl newUps)), (a_newDowns, .inl (cI, 60, .inl newDowns)), (a_newNumber, .inl (cJ, 60, .inr (.inl newNumber)))] H := hP
        have hD : va_D A [(a_p0, .inr (4, [.int thrown, .int modes, .int products, .ref a_upsOf, .ref a_downsOf, .ref a_numberOf, .int wayKind, .ref z_rowOf, .ref z_writes, .ref z_reads, .int 0, .int madeState, .int madeSign, .ref z_matrix, .ref z_other, .int newMany, .ref a_newUps, .ref a_newDowns, .ref a_newNumber, .ref z_found, .ref z_image, .ref z_imagePlace, .int imagePower, .int imageMany, .int imageWires])), (a_upsOf, .inl (cI, 60, .inl upsOf)), (a_downsOf, .inl (cI, 60, .inl downsOf)), (a_numberOf, .inl (cJ, 60, .inr (.inl numberOf))), (a_newUps, .inl (cI, 60, .inl newUps)), (a_newDowns, .inl (cI, 60, .inl newDowns)), (a_newNumber, .inl (cJ, 60, .inr (.inl newNumber)))] := hD
        refine lv_aload_n hx hb d_Mo_take_65 rfl (lv_at hl 0 rfl) ?_
        refine va_get (D := (dC, dI)) (ci := 4) (v := .int products) (C := "FermionMapsModel") (T := F_Mo) (N := 25) hx hb ht0 i_Mo hown hK hP 0 rfl rfl 2 (by decide) (ht0 _ m_459) (fun _ h9 => h9) rfl d_Mo_take_66 ?_
        have hu := Option.some.inj hf
        subst hu
        exact rw_i hQ rfl rfl hP hD hK hS hx hb hr hlocks d_Mo_take_69
      · replace hf := if_f c_1 hf
        refine lv_aload_n hx hb d_Mo_take_18 rfl (lv_at hl 0 rfl) ?_
        refine va_get (D := (dC, dI)) (ci := 4) (v := .ref a_upsOf) (C := "FermionMapsModel") (T := F_Mo) (N := 25) hx hb ht0 i_Mo hown hK hP 0 rfl rfl 3 (by decide) (ht0 _ m_460) (fun _ h9 => h9) rfl d_Mo_take_19 ?_
        refine lv_iload_n hx hb d_Mo_take_22 rfl (lv_at hl 1 rfl) ?_
        refine lv_aload_n hx hb d_Mo_take_23 rfl (lv_at hl 0 rfl) ?_
        refine va_get (D := (dC, dI)) (ci := 4) (v := .ref a_newUps) (C := "FermionMapsModel") (T := F_Mo) (N := 25) hx hb ht0 i_Mo hown hK hP 0 rfl rfl 16 (by decide) (ht0 _ m_473) (fun _ h9 => h9) rfl d_Mo_take_24 ?_
        refine lv_iload_n hx hb d_Mo_take_27 rfl (lv_at hl 1 rfl) ?_
        obtain ⟨hi_2, hf⟩ := ckI_ok hf
        refine va_iald hx hb hK hP 4 0 rfl rfl hi_2 d_Mo_take_28 ?_
        refine lv_topi (fun t_3 e_t_3 => ?_)
        replace hf := nm_eq e_t_3 hf
        obtain ⟨hi_4, hf⟩ := ckI_ok hf
        refine va_iast hx hb hK hP hD hS 1 0 rfl rfl hi_4 d_Mo_take_29 (fun H locs hP hD hS => ?_)
        have hP : va_P (dC, dI) cls [(a_p0, .inr (4, [.int thrown, .int modes, .int products, .ref a_upsOf, .ref a_downsOf, .ref a_numberOf, .int wayKind, .ref z_rowOf, .ref z_writes, .ref z_reads, .int isImageKnown, .int madeState, .int madeSign, .ref z_matrix, .ref z_other, .int newMany, .ref a_newUps, .ref a_newDowns, .ref a_newNumber, .ref z_found, .ref z_image, .ref z_imagePlace, .int imagePower, .int imageMany, .int imageWires])), (a_upsOf, .inl (cI, 60, .inl (upd upsOf x1.toNatClampNeg t_3))), (a_downsOf, .inl (cI, 60, .inl downsOf)), (a_numberOf, .inl (cJ, 60, .inr (.inl numberOf))), (a_newUps, .inl (cI, 60, .inl newUps)), (a_newDowns, .inl (cI, 60, .inl newDowns)), (a_newNumber, .inl (cJ, 60, .inr (.inl newNumber)))] H := hP
        have hD : va_D A [(a_p0, .inr (4, [.int thrown, .int modes, .int products, .ref a_upsOf, .ref a_downsOf, .ref a_numberOf, .int wayKind, .ref z_rowOf, .ref z_writes, .ref z_reads, .int isImageKnown, .int madeState, .int madeSign, .ref z_matrix, .ref z_other, .int newMany, .ref a_newUps, .ref a_newDowns, .ref a_newNumber, .ref z_found, .ref z_image, .ref z_imagePlace, .int imagePower, .int imageMany, .int imageWires])), (a_upsOf, .inl (cI, 60, .inl (upd upsOf x1.toNatClampNeg t_3))), (a_downsOf, .inl (cI, 60, .inl downsOf)), (a_numberOf, .inl (cJ, 60, .inr (.inl numberOf))), (a_newUps, .inl (cI, 60, .inl newUps)), (a_newDowns, .inl (cI, 60, .inl newDowns)), (a_newNumber, .inl (cJ, 60, .inr (.inl newNumber)))] := hD
        refine lv_aload_n hx hb d_Mo_take_30 rfl (lv_at hl 0 rfl) ?_
        refine va_get (D := (dC, dI)) (ci := 4) (v := .ref a_downsOf) (C := "FermionMapsModel") (T := F_Mo) (N := 25) hx hb ht0 i_Mo hown hK hP 0 rfl rfl 4 (by decide) (ht0 _ m_461) (fun _ h9 => h9) rfl d_Mo_take_31 ?_
        refine lv_iload_n hx hb d_Mo_take_34 rfl (lv_at hl 1 rfl) ?_
        refine lv_aload_n hx hb d_Mo_take_35 rfl (lv_at hl 0 rfl) ?_
        refine va_get (D := (dC, dI)) (ci := 4) (v := .ref a_newDowns) (C := "FermionMapsModel") (T := F_Mo) (N := 25) hx hb ht0 i_Mo hown hK hP 0 rfl rfl 17 (by decide) (ht0 _ m_474) (fun _ h9 => h9) rfl d_Mo_take_36 ?_
        refine lv_iload_n hx hb d_Mo_take_39 rfl (lv_at hl 1 rfl) ?_
        obtain ⟨hi_5, hf⟩ := ckI_ok hf
        refine va_iald hx hb hK hP 5 0 rfl rfl hi_5 d_Mo_take_40 ?_
        refine lv_topi (fun t_6 e_t_6 => ?_)
        replace hf := nm_eq e_t_6 hf
        obtain ⟨hi_7, hf⟩ := ckI_ok hf
        refine va_iast hx hb hK hP hD hS 2 0 rfl rfl hi_7 d_Mo_take_41 (fun H locs hP hD hS => ?_)
        have hP : va_P (dC, dI) cls [(a_p0, .inr (4, [.int thrown, .int modes, .int products, .ref a_upsOf, .ref a_downsOf, .ref a_numberOf, .int wayKind, .ref z_rowOf, .ref z_writes, .ref z_reads, .int isImageKnown, .int madeState, .int madeSign, .ref z_matrix, .ref z_other, .int newMany, .ref a_newUps, .ref a_newDowns, .ref a_newNumber, .ref z_found, .ref z_image, .ref z_imagePlace, .int imagePower, .int imageMany, .int imageWires])), (a_upsOf, .inl (cI, 60, .inl (upd upsOf x1.toNatClampNeg t_3))), (a_downsOf, .inl (cI, 60, .inl (upd downsOf x1.toNatClampNeg t_6))), (a_numberOf, .inl (cJ, 60, .inr (.inl numberOf))), (a_newUps, .inl (cI, 60, .inl newUps)), (a_newDowns, .inl (cI, 60, .inl newDowns)), (a_newNumber, .inl (cJ, 60, .inr (.inl newNumber)))] H := hP
        have hD : va_D A [(a_p0, .inr (4, [.int thrown, .int modes, .int products, .ref a_upsOf, .ref a_downsOf, .ref a_numberOf, .int wayKind, .ref z_rowOf, .ref z_writes, .ref z_reads, .int isImageKnown, .int madeState, .int madeSign, .ref z_matrix, .ref z_other, .int newMany, .ref a_newUps, .ref a_newDowns, .ref a_newNumber, .ref z_found, .ref z_image, .ref z_imagePlace, .int imagePower, .int imageMany, .int imageWires])), (a_upsOf, .inl (cI, 60, .inl (upd upsOf x1.toNatClampNeg t_3))), (a_downsOf, .inl (cI, 60, .inl (upd downsOf x1.toNatClampNeg t_6))), (a_numberOf, .inl (cJ, 60, .inr (.inl numberOf))), (a_newUps, .inl (cI, 60, .inl newUps)), (a_newDowns, .inl (cI, 60, .inl newDowns)), (a_newNumber, .inl (cJ, 60, .inr (.inl newNumber)))] := hD
        refine lv_aload_n hx hb d_Mo_take_42 rfl (lv_at hl 0 rfl) ?_
        refine va_get (D := (dC, dI)) (ci := 4) (v := .ref a_numberOf) (C := "FermionMapsModel") (T := F_Mo) (N := 25) hx hb ht0 i_Mo hown hK hP 0 rfl rfl 5 (by decide) (ht0 _ m_462) (fun _ h9 => h9) rfl d_Mo_take_43 ?_
        refine lv_iload_n hx hb d_Mo_take_46 rfl (lv_at hl 1 rfl) ?_
        refine lv_aload_n hx hb d_Mo_take_47 rfl (lv_at hl 0 rfl) ?_
        refine va_get (D := (dC, dI)) (ci := 4) (v := .ref a_newNumber) (C := "FermionMapsModel") (T := F_Mo) (N := 25) hx hb ht0 i_Mo hown hK hP 0 rfl rfl 18 (by decide) (ht0 _ m_475) (fun _ h9 => h9) rfl d_Mo_take_48 ?_
        refine lv_iload_n hx hb d_Mo_take_51 rfl (lv_at hl 1 rfl) ?_
        obtain ⟨hi_8, hf⟩ := ckI_ok hf
        refine va_lald hx hb hK hP 6 1 rfl rfl hi_8 d_Mo_take_52 ?_
        refine lv_topl (fun t_9 e_t_9 => ?_)
        replace hf := nm_eq e_t_9 hf
        obtain ⟨hi_10, hf⟩ := ckI_ok hf
        refine va_last hx hb hK hP hD hS 3 1 rfl rfl hi_10 d_Mo_take_53 (fun H locs hP hD hS => ?_)
        have hP : va_P (dC, dI) cls [(a_p0, .inr (4, [.int thrown, .int modes, .int products, .ref a_upsOf, .ref a_downsOf, .ref a_numberOf, .int wayKind, .ref z_rowOf, .ref z_writes, .ref z_reads, .int isImageKnown, .int madeState, .int madeSign, .ref z_matrix, .ref z_other, .int newMany, .ref a_newUps, .ref a_newDowns, .ref a_newNumber, .ref z_found, .ref z_image, .ref z_imagePlace, .int imagePower, .int imageMany, .int imageWires])), (a_upsOf, .inl (cI, 60, .inl (upd upsOf x1.toNatClampNeg t_3))), (a_downsOf, .inl (cI, 60, .inl (upd downsOf x1.toNatClampNeg t_6))), (a_numberOf, .inl (cJ, 60, .inr (.inl (vp_updL numberOf x1.toNatClampNeg t_9)))), (a_newUps, .inl (cI, 60, .inl newUps)), (a_newDowns, .inl (cI, 60, .inl newDowns)), (a_newNumber, .inl (cJ, 60, .inr (.inl newNumber)))] H := hP
        have hD : va_D A [(a_p0, .inr (4, [.int thrown, .int modes, .int products, .ref a_upsOf, .ref a_downsOf, .ref a_numberOf, .int wayKind, .ref z_rowOf, .ref z_writes, .ref z_reads, .int isImageKnown, .int madeState, .int madeSign, .ref z_matrix, .ref z_other, .int newMany, .ref a_newUps, .ref a_newDowns, .ref a_newNumber, .ref z_found, .ref z_image, .ref z_imagePlace, .int imagePower, .int imageMany, .int imageWires])), (a_upsOf, .inl (cI, 60, .inl (upd upsOf x1.toNatClampNeg t_3))), (a_downsOf, .inl (cI, 60, .inl (upd downsOf x1.toNatClampNeg t_6))), (a_numberOf, .inl (cJ, 60, .inr (.inl (vp_updL numberOf x1.toNatClampNeg t_9)))), (a_newUps, .inl (cI, 60, .inl newUps)), (a_newDowns, .inl (cI, 60, .inl newDowns)), (a_newNumber, .inl (cJ, 60, .inr (.inl newNumber)))] := hD
        obtain ⟨x1_11, e_x1_11⟩ : ∃ y : Int32, y = x1 + 1 := ⟨_, rfl⟩
        replace hf := nm_eq e_x1_11 hf
        refine lv_iinc (v := x1_11) (lv' := [(1, .int x1_11), (0, .ref a_p0)]) hx hb d_Mo_take_54 hl (k := 1) rfl (by rw [e_x1_11]; rfl) (by decide) rfl (fun ls hl => ?_)
        refine lv_goto (tgt := 10) hx hb d_Mo_take_57 (by decide) ?_
        exact ih x1_11 products isImageKnown (upd upsOf x1.toNatClampNeg t_3) (upd downsOf x1.toNatClampNeg t_6) (vp_updL numberOf x1.toNatClampNeg t_9) H locs ls hf hP hD hS (lv_sub hl [1, 0] rfl)
  rw [f_Mo_take] at hf
  refine lv_aload_n hx hb d_Mo_take_0 rfl (lv_at hl 0 rfl) ?_
  refine lv_aload_n hx hb d_Mo_take_1 rfl (lv_at hl 0 rfl) ?_
  refine va_get (D := (dC, dI)) (ci := 4) (v := .int newMany) (C := "FermionMapsModel") (T := F_Mo) (N := 25) hx hb ht0 i_Mo hown hK hP 0 rfl rfl 15 (by decide) (ht0 _ m_472) (fun _ h9 => h9) rfl d_Mo_take_2 ?_
  refine va_put (D := (dC, dI)) (ci := 4) (v := .int newMany) (ty := .int) (C := "FermionMapsModel") (T := F_Mo) (N := 25) hx hb ht0 i_Mo t_Mo t_Mo_ok n_Mo hown hK hP hD hS 0 rfl rfl 2 (by decide) (ht0 _ m_459) (fun _ h9 => h9) rfl (by decide +kernel) rfl rfl (Nat.le_of_ble_eq_true rfl) d_Mo_take_5 (fun H locs hP hD hS => ?_)
  have hP : va_P (dC, dI) cls [(a_p0, .inr (4, [.int thrown, .int modes, .int newMany, .ref a_upsOf, .ref a_downsOf, .ref a_numberOf, .int wayKind, .ref z_rowOf, .ref z_writes, .ref z_reads, .int isImageKnown, .int madeState, .int madeSign, .ref z_matrix, .ref z_other, .int newMany, .ref a_newUps, .ref a_newDowns, .ref a_newNumber, .ref z_found, .ref z_image, .ref z_imagePlace, .int imagePower, .int imageMany, .int imageWires])), (a_upsOf, .inl (cI, 60, .inl upsOf)), (a_downsOf, .inl (cI, 60, .inl downsOf)), (a_numberOf, .inl (cJ, 60, .inr (.inl numberOf))), (a_newUps, .inl (cI, 60, .inl newUps)), (a_newDowns, .inl (cI, 60, .inl newDowns)), (a_newNumber, .inl (cJ, 60, .inr (.inl newNumber)))] H := hP
  have hD : va_D A [(a_p0, .inr (4, [.int thrown, .int modes, .int newMany, .ref a_upsOf, .ref a_downsOf, .ref a_numberOf, .int wayKind, .ref z_rowOf, .ref z_writes, .ref z_reads, .int isImageKnown, .int madeState, .int madeSign, .ref z_matrix, .ref z_other, .int newMany, .ref a_newUps, .ref a_newDowns, .ref a_newNumber, .ref z_found, .ref z_image, .ref z_imagePlace, .int imagePower, .int imageMany, .int imageWires])), (a_upsOf, .inl (cI, 60, .inl upsOf)), (a_downsOf, .inl (cI, 60, .inl downsOf)), (a_numberOf, .inl (cJ, 60, .inr (.inl numberOf))), (a_newUps, .inl (cI, 60, .inl newUps)), (a_newDowns, .inl (cI, 60, .inl newDowns)), (a_newNumber, .inl (cJ, 60, .inr (.inl newNumber)))] := hD
  refine lv_iconst (v := 0) hx hb d_Mo_take_8 (by decide) ?_
  refine lv_istore_n (lv' := [(1, .int 0), (0, .ref a_p0)]) hx hb d_Mo_take_9 rfl hl (by decide) rfl (fun ls hl => ?_)
  exact B_10 F 0 newMany isImageKnown upsOf downsOf numberOf H locs ls hf hP hD hS (lv_sub hl [1, 0] rfl)

/-! FermionMapsModel.add(III)I -/
def b_Mo_add_232 (F : Nat) (modes : Int32) (x5 : Int32) (thrown : Int32) (products : Int32) (isImageKnown : Int32) (newMany : Int32) (upsOf : Nat → Int32) (downsOf : Nat → Int32) (numberOf : Nat → Int64) (newUps : Nat → Int32) (newDowns : Nat → Int32) (newNumber : Nat → Int64) : Option (Int32 × Int32 × Int32 × Int32 × Int32 × (Nat → Int32) × (Nat → Int32) × (Nat → Int64) × (Nat → Int32) × (Nat → Int32) × (Nat → Int64)) :=
  if x5 = 0 then
    some ((-1), thrown, products, isImageKnown, newMany, upsOf, downsOf, numberOf, newUps, newDowns, newNumber)
  else
    (f_Mo_take F products isImageKnown newMany upsOf downsOf numberOf newUps newDowns newNumber).bind fun u_11 =>
    some (u_11.1, thrown, u_11.2.1, u_11.2.2.1, newMany, u_11.2.2.2.1, u_11.2.2.2.2.1, u_11.2.2.2.2.2, newUps, newDowns, newNumber)
def b_Mo_add_230 (F : Nat) (modes : Int32) (s0 : Int32) (thrown : Int32) (products : Int32) (isImageKnown : Int32) (newMany : Int32) (upsOf : Nat → Int32) (downsOf : Nat → Int32) (numberOf : Nat → Int64) (newUps : Nat → Int32) (newDowns : Nat → Int32) (newNumber : Nat → Int64) : Option (Int32 × Int32 × Int32 × Int32 × Int32 × (Nat → Int32) × (Nat → Int32) × (Nat → Int64) × (Nat → Int32) × (Nat → Int32) × (Nat → Int64)) :=
  b_Mo_add_232 F modes s0 thrown products isImageKnown newMany upsOf downsOf numberOf newUps newDowns newNumber
def b_Mo_add_229 (F : Nat) (modes : Int32) (thrown : Int32) (products : Int32) (isImageKnown : Int32) (newMany : Int32) (upsOf : Nat → Int32) (downsOf : Nat → Int32) (numberOf : Nat → Int64) (newUps : Nat → Int32) (newDowns : Nat → Int32) (newNumber : Nat → Int64) : Option (Int32 × Int32 × Int32 × Int32 × Int32 × (Nat → Int32) × (Nat → Int32) × (Nat → Int64) × (Nat → Int32) × (Nat → Int32) × (Nat → Int64)) :=
  b_Mo_add_230 F modes 0 thrown products isImageKnown newMany upsOf downsOf numberOf newUps newDowns newNumber
def b_Mo_add_198 (F : Nat) (k_64 : Int32 → Int32 → Int32 → Int32 → Int32 → Int32 → Int32 → Int32 → Int32 → Int32 → Int32 → (Nat → Int32) → (Nat → Int32) → (Nat → Int64) → (Nat → Int32) → (Nat → Int32) → (Nat → Int64) → Option (Int32 × Int32 × Int32 × Int32 × Int32 × (Nat → Int32) × (Nat → Int32) × (Nat → Int64) × (Nat → Int32) × (Nat → Int32) × (Nat → Int64))) (modes : Int32) (x1 : Int32) (x2 : Int32) (x3 : Int32) (x4 : Int32) (x5 : Int32) (x6 : Int32) (x7 : Int32) (thrown : Int32) (products : Int32) (isImageKnown : Int32) (newMany : Int32) (upsOf : Nat → Int32) (downsOf : Nat → Int32) (numberOf : Nat → Int64) (newUps : Nat → Int32) (newDowns : Nat → Int32) (newNumber : Nat → Int64) : Option (Int32 × Int32 × Int32 × Int32 × Int32 × (Nat → Int32) × (Nat → Int32) × (Nat → Int64) × (Nat → Int32) × (Nat → Int32) × (Nat → Int64)) :=
  nm (x7 + 1 : Int32) fun x7_20 =>
  k_64 x1 x2 x3 x4 x5 x6 x7_20 thrown products isImageKnown newMany upsOf downsOf numberOf newUps newDowns newNumber
def b_Mo_add_196 (F : Nat) (k_64 : Int32 → Int32 → Int32 → Int32 → Int32 → Int32 → Int32 → Int32 → Int32 → Int32 → Int32 → (Nat → Int32) → (Nat → Int32) → (Nat → Int64) → (Nat → Int32) → (Nat → Int32) → (Nat → Int64) → Option (Int32 × Int32 × Int32 × Int32 × Int32 × (Nat → Int32) × (Nat → Int32) × (Nat → Int64) × (Nat → Int32) × (Nat → Int32) × (Nat → Int64))) (modes : Int32) (x1 : Int32) (x2 : Int32) (x3 : Int32) (x4 : Int32) (x6 : Int32) (x7 : Int32) (s0 : Int32) (thrown : Int32) (products : Int32) (isImageKnown : Int32) (newMany : Int32) (upsOf : Nat → Int32) (downsOf : Nat → Int32) (numberOf : Nat → Int64) (newUps : Nat → Int32) (newDowns : Nat → Int32) (newNumber : Nat → Int64) : Option (Int32 × Int32 × Int32 × Int32 × Int32 × (Nat → Int32) × (Nat → Int32) × (Nat → Int64) × (Nat → Int32) × (Nat → Int32) × (Nat → Int64)) :=
  b_Mo_add_198 F k_64 modes x1 x2 x3 x4 s0 x6 x7 thrown products isImageKnown newMany upsOf downsOf numberOf newUps newDowns newNumber
def b_Mo_add_195 (F : Nat) (k_64 : Int32 → Int32 → Int32 → Int32 → Int32 → Int32 → Int32 → Int32 → Int32 → Int32 → Int32 → (Nat → Int32) → (Nat → Int32) → (Nat → Int64) → (Nat → Int32) → (Nat → Int32) → (Nat → Int64) → Option (Int32 × Int32 × Int32 × Int32 × Int32 × (Nat → Int32) × (Nat → Int32) × (Nat → Int64) × (Nat → Int32) × (Nat → Int32) × (Nat → Int64))) (modes : Int32) (x1 : Int32) (x2 : Int32) (x3 : Int32) (x4 : Int32) (x6 : Int32) (x7 : Int32) (thrown : Int32) (products : Int32) (isImageKnown : Int32) (newMany : Int32) (upsOf : Nat → Int32) (downsOf : Nat → Int32) (numberOf : Nat → Int64) (newUps : Nat → Int32) (newDowns : Nat → Int32) (newNumber : Nat → Int64) : Option (Int32 × Int32 × Int32 × Int32 × Int32 × (Nat → Int32) × (Nat → Int32) × (Nat → Int64) × (Nat → Int32) × (Nat → Int32) × (Nat → Int64)) :=
  b_Mo_add_196 F k_64 modes x1 x2 x3 x4 x6 x7 0 thrown products isImageKnown newMany upsOf downsOf numberOf newUps newDowns newNumber
def b_Mo_add_151 (F : Nat) (k_64 : Int32 → Int32 → Int32 → Int32 → Int32 → Int32 → Int32 → Int32 → Int32 → Int32 → Int32 → (Nat → Int32) → (Nat → Int32) → (Nat → Int64) → (Nat → Int32) → (Nat → Int32) → (Nat → Int64) → Option (Int32 × Int32 × Int32 × Int32 × Int32 × (Nat → Int32) × (Nat → Int32) × (Nat → Int64) × (Nat → Int32) × (Nat → Int32) × (Nat → Int64))) (modes : Int32) (x1 : Int32) (x2 : Int32) (x3 : Int32) (x4 : Int32) (x5 : Int32) (x6 : Int32) (x7 : Int32) (x8 : Int32) (thrown : Int32) (products : Int32) (isImageKnown : Int32) (newMany : Int32) (upsOf : Nat → Int32) (downsOf : Nat → Int32) (numberOf : Nat → Int64) (newUps : Nat → Int32) (newDowns : Nat → Int32) (newNumber : Nat → Int64) : Option (Int32 × Int32 × Int32 × Int32 × Int32 × (Nat → Int32) × (Nat → Int32) × (Nat → Int64) × (Nat → Int32) × (Nat → Int32) × (Nat → Int64)) :=
  if x8 = x4 then
    b_Mo_add_198 F k_64 modes x1 x2 x3 x4 x5 x6 x7 thrown products isImageKnown newMany upsOf downsOf numberOf newUps newDowns newNumber
  else
    if x5 = 0 then
      b_Mo_add_195 F k_64 modes x1 x2 x3 x4 x6 x7 thrown products isImageKnown newMany upsOf downsOf numberOf newUps newDowns newNumber
    else
      ckI x7 60 <|
      ckI x7 60 <|
      ckI x7 60 <|
      (f_Mo_put F newMany newUps newDowns newNumber (upsOf x7.toNatClampNeg) (downsOf x7.toNatClampNeg) (numberOf x7.toNatClampNeg)).bind fun u_25 =>
      if u_25.1 = 0 then
        b_Mo_add_195 F k_64 modes x1 x2 x3 x4 x6 x7 thrown products isImageKnown u_25.2.1 upsOf downsOf numberOf u_25.2.2.1 u_25.2.2.2.1 u_25.2.2.2.2
      else
        b_Mo_add_196 F k_64 modes x1 x2 x3 x4 x6 x7 1 thrown products isImageKnown u_25.2.1 upsOf downsOf numberOf u_25.2.2.1 u_25.2.2.2.1 u_25.2.2.2.2
def b_Mo_add_149 (F : Nat) (k_64 : Int32 → Int32 → Int32 → Int32 → Int32 → Int32 → Int32 → Int32 → Int32 → Int32 → Int32 → (Nat → Int32) → (Nat → Int32) → (Nat → Int64) → (Nat → Int32) → (Nat → Int32) → (Nat → Int64) → Option (Int32 × Int32 × Int32 × Int32 × Int32 × (Nat → Int32) × (Nat → Int32) × (Nat → Int64) × (Nat → Int32) × (Nat → Int32) × (Nat → Int64))) (modes : Int32) (x1 : Int32) (x2 : Int32) (x3 : Int32) (x4 : Int32) (x6 : Int32) (x7 : Int32) (x8 : Int32) (s0 : Int32) (thrown : Int32) (products : Int32) (isImageKnown : Int32) (newMany : Int32) (upsOf : Nat → Int32) (downsOf : Nat → Int32) (numberOf : Nat → Int64) (newUps : Nat → Int32) (newDowns : Nat → Int32) (newNumber : Nat → Int64) : Option (Int32 × Int32 × Int32 × Int32 × Int32 × (Nat → Int32) × (Nat → Int32) × (Nat → Int64) × (Nat → Int32) × (Nat → Int32) × (Nat → Int64)) :=
  b_Mo_add_151 F k_64 modes x1 x2 x3 x4 s0 x6 x7 x8 thrown products isImageKnown newMany upsOf downsOf numberOf newUps newDowns newNumber
def b_Mo_add_148 (F : Nat) (k_64 : Int32 → Int32 → Int32 → Int32 → Int32 → Int32 → Int32 → Int32 → Int32 → Int32 → Int32 → (Nat → Int32) → (Nat → Int32) → (Nat → Int64) → (Nat → Int32) → (Nat → Int32) → (Nat → Int64) → Option (Int32 × Int32 × Int32 × Int32 × Int32 × (Nat → Int32) × (Nat → Int32) × (Nat → Int64) × (Nat → Int32) × (Nat → Int32) × (Nat → Int64))) (modes : Int32) (x1 : Int32) (x2 : Int32) (x3 : Int32) (x4 : Int32) (x6 : Int32) (x7 : Int32) (x8 : Int32) (thrown : Int32) (products : Int32) (isImageKnown : Int32) (newMany : Int32) (upsOf : Nat → Int32) (downsOf : Nat → Int32) (numberOf : Nat → Int64) (newUps : Nat → Int32) (newDowns : Nat → Int32) (newNumber : Nat → Int64) : Option (Int32 × Int32 × Int32 × Int32 × Int32 × (Nat → Int32) × (Nat → Int32) × (Nat → Int64) × (Nat → Int32) × (Nat → Int32) × (Nat → Int64)) :=
  b_Mo_add_149 F k_64 modes x1 x2 x3 x4 x6 x7 x8 0 thrown products isImageKnown newMany upsOf downsOf numberOf newUps newDowns newNumber
def b_Mo_add_137 (F : Nat) (k_64 : Int32 → Int32 → Int32 → Int32 → Int32 → Int32 → Int32 → Int32 → Int32 → Int32 → Int32 → (Nat → Int32) → (Nat → Int32) → (Nat → Int64) → (Nat → Int32) → (Nat → Int32) → (Nat → Int64) → Option (Int32 × Int32 × Int32 × Int32 × Int32 × (Nat → Int32) × (Nat → Int32) × (Nat → Int64) × (Nat → Int32) × (Nat → Int32) × (Nat → Int64))) (modes : Int32) (x1 : Int32) (x2 : Int32) (x3 : Int32) (x4 : Int32) (x6 : Int32) (x7 : Int32) (x8 : Int32) (s1 : Int32) (s2 : Int32) (s3 : Int64) (s4 : Int64) (thrown : Int32) (products : Int32) (isImageKnown : Int32) (newMany : Int32) (upsOf : Nat → Int32) (downsOf : Nat → Int32) (numberOf : Nat → Int64) (newUps : Nat → Int32) (newDowns : Nat → Int32) (newNumber : Nat → Int64) : Option (Int32 × Int32 × Int32 × Int32 × Int32 × (Nat → Int32) × (Nat → Int32) × (Nat → Int64) × (Nat → Int32) × (Nat → Int32) × (Nat → Int64)) :=
  (f_Mo_put F newMany newUps newDowns newNumber s1 s2 (s3 + s4)).bind fun u_30 =>
  if u_30.1 = 0 then
    b_Mo_add_148 F k_64 modes x1 x2 x3 x4 x6 x7 x8 thrown products isImageKnown u_30.2.1 upsOf downsOf numberOf u_30.2.2.1 u_30.2.2.2.1 u_30.2.2.2.2
  else
    b_Mo_add_149 F k_64 modes x1 x2 x3 x4 x6 x7 x8 1 thrown products isImageKnown u_30.2.1 upsOf downsOf numberOf u_30.2.2.1 u_30.2.2.2.1 u_30.2.2.2.2
def b_Mo_add_64 (F : Nat) (modes : Int32) : Nat → Int32 → Int32 → Int32 → Int32 → Int32 → Int32 → Int32 → Int32 → Int32 → Int32 → Int32 → (Nat → Int32) → (Nat → Int32) → (Nat → Int64) → (Nat → Int32) → (Nat → Int32) → (Nat → Int64) → Option (Int32 × Int32 × Int32 × Int32 × Int32 × (Nat → Int32) × (Nat → Int32) × (Nat → Int64) × (Nat → Int32) × (Nat → Int32) × (Nat → Int64))
  | 0, _, _, _, _, _, _, _, _, _, _, _, _, _, _, _, _, _ => none
  | n + 1, x1, x2, x3, x4, x5, x6, x7, thrown, products, isImageKnown, newMany, upsOf, downsOf, numberOf, newUps, newDowns, newNumber =>
    if products ≤ x7 then
      if x6 = 0 then
        if x5 = 0 then
          b_Mo_add_229 F modes thrown products isImageKnown newMany upsOf downsOf numberOf newUps newDowns newNumber
        else
          (f_Mo_put F newMany newUps newDowns newNumber x1 x2 (x3.toInt64)).bind fun u_13 =>
          if u_13.1 = 0 then
            b_Mo_add_229 F modes thrown products isImageKnown u_13.2.1 upsOf downsOf numberOf u_13.2.2.1 u_13.2.2.2.1 u_13.2.2.2.2
          else
            b_Mo_add_230 F modes 1 thrown products isImageKnown u_13.2.1 upsOf downsOf numberOf u_13.2.2.1 u_13.2.2.2.1 u_13.2.2.2.2
      else
        b_Mo_add_232 F modes x5 thrown products isImageKnown newMany upsOf downsOf numberOf newUps newDowns newNumber
    else
      ckI x7 60 <|
      ckI x7 60 <|
      nm (((256 * (upsOf x7.toNatClampNeg)) + (downsOf x7.toNatClampNeg)) : Int32) fun x8_17 =>
      if x6 = 0 then
        if x8_17 < x4 then
          b_Mo_add_151 F (b_Mo_add_64 F modes n) modes x1 x2 x3 x4 x5 x6 x7 x8_17 thrown products isImageKnown newMany upsOf downsOf numberOf newUps newDowns newNumber
        else
          if x5 = 0 then
            b_Mo_add_148 F (b_Mo_add_64 F modes n) modes x1 x2 x3 x4 1 x7 x8_17 thrown products isImageKnown newMany upsOf downsOf numberOf newUps newDowns newNumber
          else
            if x8_17 = x4 then
              ckI x7 60 <|
              b_Mo_add_137 F (b_Mo_add_64 F modes n) modes x1 x2 x3 x4 1 x7 x8_17 x1 x2 (x3.toInt64) (numberOf x7.toNatClampNeg) thrown products isImageKnown newMany upsOf downsOf numberOf newUps newDowns newNumber
            else
              b_Mo_add_137 F (b_Mo_add_64 F modes n) modes x1 x2 x3 x4 1 x7 x8_17 x1 x2 (x3.toInt64) 0 thrown products isImageKnown newMany upsOf downsOf numberOf newUps newDowns newNumber
      else
        b_Mo_add_151 F (b_Mo_add_64 F modes n) modes x1 x2 x3 x4 x5 x6 x7 x8_17 thrown products isImageKnown newMany upsOf downsOf numberOf newUps newDowns newNumber
def f_Mo_add (F : Nat) (thrown : Int32) (modes : Int32) (products : Int32) (isImageKnown : Int32) (newMany : Int32) (upsOf : Nat → Int32) (downsOf : Nat → Int32) (numberOf : Nat → Int64) (newUps : Nat → Int32) (newDowns : Nat → Int32) (newNumber : Nat → Int64) (p1 : Int32) (p2 : Int32) (p3 : Int32) : Option (Int32 × Int32 × Int32 × Int32 × Int32 × (Nat → Int32) × (Nat → Int32) × (Nat → Int64) × (Nat → Int32) × (Nat → Int32) × (Nat → Int64)) :=
  (f_Mo_isState F modes p1).bind fun u_1 =>
  if u_1 = 0 then
    some ((-1), 0, products, isImageKnown, newMany, upsOf, downsOf, numberOf, newUps, newDowns, newNumber)
  else
    (f_Mo_isState F modes p2).bind fun u_3 =>
    if u_3 = 0 then
      some ((-1), 0, products, isImageKnown, newMany, upsOf, downsOf, numberOf, newUps, newDowns, newNumber)
    else
      if 0 < (lg_cmp (p3.toInt64) 1000000) then
        some ((-1), 0, products, isImageKnown, newMany, upsOf, downsOf, numberOf, newUps, newDowns, newNumber)
      else
        if 0 ≤ (lg_cmp (p3.toInt64) (-1000000)) then
          nm (((256 * p1) + p2) : Int32) fun x4_7 =>
          b_Mo_add_64 F modes F p1 p2 p3 x4_7 1 0 0 0 products isImageKnown 0 upsOf downsOf numberOf newUps newDowns newNumber
        else
          some ((-1), 0, products, isImageKnown, newMany, upsOf, downsOf, numberOf, newUps, newDowns, newNumber)
abbrev rm_Mo_add : Room := { frames := 2, cells := 0, slots := 0, locals := 41 }
set_option maxHeartbeats 4000000 in
set_option maxRecDepth 100000 in
theorem c_Mo_add (l : Launch) (dC : Nat → ClassId) (dI : Nat → Nat → Nat) (cI cJ : ClassId) (a_p0 a_upsOf a_downsOf a_numberOf a_newUps a_newDowns a_newNumber z_rowOf z_writes z_reads z_matrix z_other z_found z_image z_imagePlace : Nat) (sz : Nat) (thrown : Int32) (modes : Int32) (products : Int32) (wayKind : Int32) (isImageKnown : Int32) (madeState : Int32) (madeSign : Int32) (newMany : Int32) (imagePower : Int32) (imageMany : Int32) (imageWires : Int32) (upsOf : Nat → Int32) (downsOf : Nat → Int32) (numberOf : Nat → Int64) (newUps : Nat → Int32) (newDowns : Nat → Int32) (newNumber : Nat → Int64) (p1 : Int32) (p2 : Int32) (p3 : Int32) (F : Nat) (u : Int32 × Int32 × Int32 × Int32 × Int32 × (Nat → Int32) × (Nat → Int32) × (Nat → Int64) × (Nat → Int32) × (Nat → Int32) × (Nat → Int64)) (hf : f_Mo_add F thrown modes products isImageKnown newMany upsOf downsOf numberOf newUps newDowns newNumber p1 p2 p3 = some u) : Met l y_Mo_add (Cond.code y_Mo_add prog_6_method_14_code 9 (some .int) :: T0) rm_Mo_add (va_Pc [.ref a_p0, .int p1, .int p2, .int p3] (Ww (dC, dI) [(a_p0, .inr (4, [.int thrown, .int modes, .int products, .ref a_upsOf, .ref a_downsOf, .ref a_numberOf, .int wayKind, .ref z_rowOf, .ref z_writes, .ref z_reads, .int isImageKnown, .int madeState, .int madeSign, .ref z_matrix, .ref z_other, .int newMany, .ref a_newUps, .ref a_newDowns, .ref a_newNumber, .ref z_found, .ref z_image, .ref z_imagePlace, .int imagePower, .int imageMany, .int imageWires])), (a_upsOf, .inl (cI, 60, .inl upsOf)), (a_downsOf, .inl (cI, 60, .inl downsOf)), (a_numberOf, .inl (cJ, 60, .inr (.inl numberOf))), (a_newUps, .inl (cI, 60, .inl newUps)), (a_newDowns, .inl (cI, 60, .inl newDowns)), (a_newNumber, .inl (cJ, 60, .inr (.inl newNumber)))] [(cI, .int), (cJ, .long)] sz)) (va_Qi (fun r (_ : Unit) => r = u.1) (Bw (dC, dI) [(cI, .int), (cJ, .long)] (va_A [(a_p0, .inr (4, [.int thrown, .int modes, .int products, .ref a_upsOf, .ref a_downsOf, .ref a_numberOf, .int wayKind, .ref z_rowOf, .ref z_writes, .ref z_reads, .int isImageKnown, .int madeState, .int madeSign, .ref z_matrix, .ref z_other, .int newMany, .ref a_newUps, .ref a_newDowns, .ref a_newNumber, .ref z_found, .ref z_image, .ref z_imagePlace, .int imagePower, .int imageMany, .int imageWires])), (a_upsOf, .inl (cI, 60, .inl upsOf)), (a_downsOf, .inl (cI, 60, .inl downsOf)), (a_numberOf, .inl (cJ, 60, .inr (.inl numberOf))), (a_newUps, .inl (cI, 60, .inl newUps)), (a_newDowns, .inl (cI, 60, .inl newDowns)), (a_newNumber, .inl (cJ, 60, .inr (.inl newNumber)))] sz) (fun w1 => w1 = [(a_p0, .inr (4, [.int u.2.1, .int modes, .int u.2.2.1, .ref a_upsOf, .ref a_downsOf, .ref a_numberOf, .int wayKind, .ref z_rowOf, .ref z_writes, .ref z_reads, .int u.2.2.2.1, .int madeState, .int madeSign, .ref z_matrix, .ref z_other, .int u.2.2.2.2.1, .ref a_newUps, .ref a_newDowns, .ref a_newNumber, .ref z_found, .ref z_image, .ref z_imagePlace, .int imagePower, .int imageMany, .int imageWires])), (a_upsOf, .inl (cI, 60, .inl u.2.2.2.2.2.1)), (a_downsOf, .inl (cI, 60, .inl u.2.2.2.2.2.2.1)), (a_numberOf, .inl (cJ, 60, .inr (.inl u.2.2.2.2.2.2.2.1))), (a_newUps, .inl (cI, 60, .inl u.2.2.2.2.2.2.2.2.1)), (a_newDowns, .inl (cI, 60, .inl u.2.2.2.2.2.2.2.2.2.1)), (a_newNumber, .inl (cJ, 60, .inr (.inl u.2.2.2.2.2.2.2.2.2.2)))])) (va_A [(a_p0, .inr (4, [.int thrown, .int modes, .int products, .ref a_upsOf, .ref a_downsOf, .ref a_numberOf, .int wayKind, .ref z_rowOf, .ref z_writes, .ref z_reads, .int isImageKnown, .int madeState, .int madeSign, .ref z_matrix, .ref z_other, .int newMany, .ref a_newUps, .ref a_newDowns, .ref a_newNumber, .ref z_found, .ref z_image, .ref z_imagePlace, .int imagePower, .int imageMany, .int imageWires])), (a_upsOf, .inl (cI, 60, .inl upsOf)), (a_downsOf, .inl (cI, 60, .inl downsOf)), (a_numberOf, .inl (cJ, 60, .inr (.inl numberOf))), (a_newUps, .inl (cI, 60, .inl newUps)), (a_newDowns, .inl (cI, 60, .inl newDowns)), (a_newNumber, .inl (cJ, 60, .inr (.inl newNumber)))] sz)) 0 0 (va_A [(a_p0, .inr (4, [.int thrown, .int modes, .int products, .ref a_upsOf, .ref a_downsOf, .ref a_numberOf, .int wayKind, .ref z_rowOf, .ref z_writes, .ref z_reads, .int isImageKnown, .int madeState, .int madeSign, .ref z_matrix, .ref z_other, .int newMany, .ref a_newUps, .ref a_newDowns, .ref a_newNumber, .ref z_found, .ref z_image, .ref z_imagePlace, .int imagePower, .int imageMany, .int imageWires])), (a_upsOf, .inl (cI, 60, .inl upsOf)), (a_downsOf, .inl (cI, 60, .inl downsOf)), (a_numberOf, .inl (cJ, 60, .inr (.inl numberOf))), (a_newUps, .inl (cI, 60, .inl newUps)), (a_newDowns, .inl (cI, 60, .inl newDowns)), (a_newNumber, .inl (cJ, 60, .inr (.inl newNumber)))] sz) := by
  refine Met.ofW (cc := prog_6_method_14_code) (maxL := 9) (ret := (some .int)) (by decide) rfl ?_
  intro p e s m args below meth c s₁ B hml hv
  obtain ⟨rfl, hsz, hP, hK, hD0, hNW⟩ := hv
  have hx := B.exec
  have hb := B.bytes
  have hr := B.returns
  have hts := atoms_spec (ws := Cond.code y_Mo_add prog_6_method_14_code 9 (some .int) :: T0) B.pre
  have ht0 : ∀ w ∈ T0, w.before ([.ref a_p0, .int p1, .int p2, .int p3] : List Value).toArray s = true := fun w h => hts w (List.mem_cons_of_mem _ h)
  have hown : s.vm.findClass "FermionMapsModel" = some m.cls := findClass_of_methodNamed B.named
  have hlocks := B.notSynchronized
  subst hsz
  have hD := hD0.self (sz := s.heap.size)
  generalize hAe : va_A [(a_p0, .inr (4, [.int thrown, .int modes, .int products, .ref a_upsOf, .ref a_downsOf, .ref a_numberOf, .int wayKind, .ref z_rowOf, .ref z_writes, .ref z_reads, .int isImageKnown, .int madeState, .int madeSign, .ref z_matrix, .ref z_other, .int newMany, .ref a_newUps, .ref a_newDowns, .ref a_newNumber, .ref z_found, .ref z_image, .ref z_imagePlace, .int imagePower, .int imageMany, .int imageWires])), (a_upsOf, .inl (cI, 60, .inl upsOf)), (a_downsOf, .inl (cI, 60, .inl downsOf)), (a_numberOf, .inl (cJ, 60, .inr (.inl numberOf))), (a_newUps, .inl (cI, 60, .inl newUps)), (a_newDowns, .inl (cI, 60, .inl newDowns)), (a_newNumber, .inl (cJ, 60, .inr (.inl newNumber)))] s.heap.size = A at hD ⊢
  have hA : ∀ q : Nat, s.heap.size ≤ q → A q := fun q h => by rw [← hAe]; exact Or.inr h
  have hS : va_S A s.heap s.heap [] := va_S.rf
  have hl := lv_entry ([.ref a_p0, .int p1, .int p2, .int p3]) (n := 9) (Nat.le_of_ble_eq_true rfl)
  rw [lg_entry_eq]
  generalize (lg_sl ([.ref a_p0, .int p1, .int p2, .int p3]) ++ List.replicate (9 - (lg_sl ([.ref a_p0, .int p1, .int p2, .int p3])).length) Slot.unset).toArray = ls at hl ⊢
  have hl : lv_has ls 9 [(0, .ref a_p0), (1, .int p1), (2, .int p2), (3, .int p3)] := hl
  refine W.nameQ (fun Q hQ => ?_)
  have B_232 : ∀ (x5 : Int32) (thrown : Int32) (products : Int32) (isImageKnown : Int32) (newMany : Int32) (upsOf : Nat → Int32) (downsOf : Nat → Int32) (numberOf : Nat → Int64) (newUps : Nat → Int32) (newDowns : Nat → Int32) (newNumber : Nat → Int64) (H : Heap) (locs : List Loc) (ls : Array Slot), b_Mo_add_232 F modes x5 thrown products isImageKnown newMany upsOf downsOf numberOf newUps newDowns newNumber = some u → va_P (dC, dI) cls [(a_p0, .inr (4, [.int thrown, .int modes, .int products, .ref a_upsOf, .ref a_downsOf, .ref a_numberOf, .int wayKind, .ref z_rowOf, .ref z_writes, .ref z_reads, .int isImageKnown, .int madeState, .int madeSign, .ref z_matrix, .ref z_other, .int newMany, .ref a_newUps, .ref a_newDowns, .ref a_newNumber, .ref z_found, .ref z_image, .ref z_imagePlace, .int imagePower, .int imageMany, .int imageWires])), (a_upsOf, .inl (cI, 60, .inl upsOf)), (a_downsOf, .inl (cI, 60, .inl downsOf)), (a_numberOf, .inl (cJ, 60, .inr (.inl numberOf))), (a_newUps, .inl (cI, 60, .inl newUps)), (a_newDowns, .inl (cI, 60, .inl newDowns)), (a_newNumber, .inl (cJ, 60, .inr (.inl newNumber)))] H → va_D A [(a_p0, .inr (4, [.int thrown, .int modes, .int products, .ref a_upsOf, .ref a_downsOf, .ref a_numberOf, .int wayKind, .ref z_rowOf, .ref z_writes, .ref z_reads, .int isImageKnown, .int madeState, .int madeSign, .ref z_matrix, .ref z_other, .int newMany, .ref a_newUps, .ref a_newDowns, .ref a_newNumber, .ref z_found, .ref z_image, .ref z_imagePlace, .int imagePower, .int imageMany, .int imageWires])), (a_upsOf, .inl (cI, 60, .inl upsOf)), (a_downsOf, .inl (cI, 60, .inl downsOf)), (a_numberOf, .inl (cJ, 60, .inr (.inl numberOf))), (a_newUps, .inl (cI, 60, .inl newUps)), (a_newDowns, .inl (cI, 60, .inl newDowns)), (a_newNumber, .inl (cJ, 60, .inr (.inl newNumber)))] → va_S A s.heap H locs → lv_has ls 9 [(0, .ref a_p0), (5, .int x5)] → W p l e (headSpec (Cond.code y_Mo_add prog_6_method_14_code 9 (some .int) :: T0) rm_Mo_add).room s m ([.ref a_p0, .int p1, .int p2, .int p3] : List Value).toArray below meth c H locs 0 0 Q (F0 m 232 ls []) := by
    intro x5 thrown products isImageKnown newMany upsOf downsOf numberOf newUps newDowns newNumber H locs ls hf hP hD hS hl
    rw [b_Mo_add_232] at hf
    refine lv_iload hx hb d_Mo_add_232 (lv_at hl 1 rfl) ?_
    refine lv_if_eq (tgt := 244) hx hb d_Mo_add_234 (by decide) (fun c_10 => ?_) (fun c_10 => ?_)
    · replace hf := if_t c_10 hf
      refine lv_iconst (v := (-1)) hx hb d_Mo_add_244 (by decide) ?_
      have hu := Option.some.inj hf
      subst hu
      exact rw_i hQ rfl rfl hP hD hK hS hx hb hr hlocks d_Mo_add_245
    · replace hf := if_f c_10 hf
      refine lv_aload_n hx hb d_Mo_add_237 rfl (lv_at hl 0 rfl) ?_
      obtain ⟨u_11, h_u_11, hf⟩ := bd hf
      refine wr_i (wr := []) (wrV_run (As := []) (rest := []) ⟨hx, hb, hml, hown, ht0⟩ (c_Mo_take l dC dI cI cJ a_p0 a_upsOf a_downsOf a_numberOf a_newUps a_newDowns a_newNumber z_rowOf z_writes z_reads z_matrix z_other z_found z_image z_imagePlace H.size thrown modes products wayKind isImageKnown madeState madeSign newMany imagePower imageMany imageWires upsOf downsOf numberOf newUps newDowns newNumber F u_11 h_u_11) (cwV 0 ht0 (gV m_555 m_557 (T0_pr (y := ⟨"FermionMapsModel", "take", "()I"⟩) (i := 9) rfl rfl) m_5 m_558) rfl rfl rfl (by decide +kernel) ⟨Nat.le_of_ble_eq_true rfl, Nat.le_of_ble_eq_true rfl⟩) hK hNW hP hD [0, 1, 2, 3, 4, 5, 6] rfl rfl (by decide) (ci := 4) (q0 := 0) rfl rfl rfl hl.1 rfl (Nat.le_of_ble_eq_true rfl) d_Mo_add_238 ⟨Nat.zero_le _, Nat.zero_le _⟩) hP hD hS hA [0, 1, 2, 3, 4, 5, 6] [] rfl rfl (by decide) (by decide) (fun w1 H locs hw hP hD hS => ?_)
      obtain rfl := hw
      have hP : va_P (dC, dI) cls [(a_p0, .inr (4, [.int thrown, .int modes, .int u_11.2.1, .ref a_upsOf, .ref a_downsOf, .ref a_numberOf, .int wayKind, .ref z_rowOf, .ref z_writes, .ref z_reads, .int u_11.2.2.1, .int madeState, .int madeSign, .ref z_matrix, .ref z_other, .int newMany, .ref a_newUps, .ref a_newDowns, .ref a_newNumber, .ref z_found, .ref z_image, .ref z_imagePlace, .int imagePower, .int imageMany, .int imageWires])), (a_upsOf, .inl (cI, 60, .inl u_11.2.2.2.1)), (a_downsOf, .inl (cI, 60, .inl u_11.2.2.2.2.1)), (a_numberOf, .inl (cJ, 60, .inr (.inl u_11.2.2.2.2.2))), (a_newUps, .inl (cI, 60, .inl newUps)), (a_newDowns, .inl (cI, 60, .inl newDowns)), (a_newNumber, .inl (cJ, 60, .inr (.inl newNumber)))] H := hP.sub [0, 1, 2, 3, 4, 5, 6] rfl
      have hD : va_D A [(a_p0, .inr (4, [.int thrown, .int modes, .int u_11.2.1, .ref a_upsOf, .ref a_downsOf, .ref a_numberOf, .int wayKind, .ref z_rowOf, .ref z_writes, .ref z_reads, .int u_11.2.2.1, .int madeState, .int madeSign, .ref z_matrix, .ref z_other, .int newMany, .ref a_newUps, .ref a_newDowns, .ref a_newNumber, .ref z_found, .ref z_image, .ref z_imagePlace, .int imagePower, .int imageMany, .int imageWires])), (a_upsOf, .inl (cI, 60, .inl u_11.2.2.2.1)), (a_downsOf, .inl (cI, 60, .inl u_11.2.2.2.2.1)), (a_numberOf, .inl (cJ, 60, .inr (.inl u_11.2.2.2.2.2))), (a_newUps, .inl (cI, 60, .inl newUps)), (a_newDowns, .inl (cI, 60, .inl newDowns)), (a_newNumber, .inl (cJ, 60, .inr (.inl newNumber)))] := hD.sub [0, 1, 2, 3, 4, 5, 6] (by decide) rfl
      refine lv_goto (tgt := 245) hx hb d_Mo_add_241 (by decide) ?_
      have hu := Option.some.inj hf
      subst hu
      exact rw_i hQ rfl rfl hP hD hK hS hx hb hr hlocks d_Mo_add_245
  have B_230 : ∀ (s0 : Int32) (thrown : Int32) (products : Int32) (isImageKnown : Int32) (newMany : Int32) (upsOf : Nat → Int32) (downsOf : Nat → Int32) (numberOf : Nat → Int64) (newUps : Nat → Int32) (newDowns : Nat → Int32) (newNumber : Nat → Int64) (H : Heap) (locs : List Loc) (ls : Array Slot), b_Mo_add_230 F modes s0 thrown products isImageKnown newMany upsOf downsOf numberOf newUps newDowns newNumber = some u → va_P (dC, dI) cls [(a_p0, .inr (4, [.int thrown, .int modes, .int products, .ref a_upsOf, .ref a_downsOf, .ref a_numberOf, .int wayKind, .ref z_rowOf, .ref z_writes, .ref z_reads, .int isImageKnown, .int madeState, .int madeSign, .ref z_matrix, .ref z_other, .int newMany, .ref a_newUps, .ref a_newDowns, .ref a_newNumber, .ref z_found, .ref z_image, .ref z_imagePlace, .int imagePower, .int imageMany, .int imageWires])), (a_upsOf, .inl (cI, 60, .inl upsOf)), (a_downsOf, .inl (cI, 60, .inl downsOf)), (a_numberOf, .inl (cJ, 60, .inr (.inl numberOf))), (a_newUps, .inl (cI, 60, .inl newUps)), (a_newDowns, .inl (cI, 60, .inl newDowns)), (a_newNumber, .inl (cJ, 60, .inr (.inl newNumber)))] H → va_D A [(a_p0, .inr (4, [.int thrown, .int modes, .int products, .ref a_upsOf, .ref a_downsOf, .ref a_numberOf, .int wayKind, .ref z_rowOf, .ref z_writes, .ref z_reads, .int isImageKnown, .int madeState, .int madeSign, .ref z_matrix, .ref z_other, .int newMany, .ref a_newUps, .ref a_newDowns, .ref a_newNumber, .ref z_found, .ref z_image, .ref z_imagePlace, .int imagePower, .int imageMany, .int imageWires])), (a_upsOf, .inl (cI, 60, .inl upsOf)), (a_downsOf, .inl (cI, 60, .inl downsOf)), (a_numberOf, .inl (cJ, 60, .inr (.inl numberOf))), (a_newUps, .inl (cI, 60, .inl newUps)), (a_newDowns, .inl (cI, 60, .inl newDowns)), (a_newNumber, .inl (cJ, 60, .inr (.inl newNumber)))] → va_S A s.heap H locs → lv_has ls 9 [(0, .ref a_p0)] → W p l e (headSpec (Cond.code y_Mo_add prog_6_method_14_code 9 (some .int) :: T0) rm_Mo_add).room s m ([.ref a_p0, .int p1, .int p2, .int p3] : List Value).toArray below meth c H locs 0 0 Q (F0 m 230 ls [.int s0]) := by
    intro s0 thrown products isImageKnown newMany upsOf downsOf numberOf newUps newDowns newNumber H locs ls hf hP hD hS hl
    rw [b_Mo_add_230] at hf
    refine lv_istore (lv' := [(5, .int s0), (0, .ref a_p0)]) hx hb d_Mo_add_230 hl (by decide) rfl (fun ls hl => ?_)
    exact B_232 s0 thrown products isImageKnown newMany upsOf downsOf numberOf newUps newDowns newNumber H locs ls hf hP hD hS (lv_sub hl [1, 0] rfl)
  have B_229 : ∀ (thrown : Int32) (products : Int32) (isImageKnown : Int32) (newMany : Int32) (upsOf : Nat → Int32) (downsOf : Nat → Int32) (numberOf : Nat → Int64) (newUps : Nat → Int32) (newDowns : Nat → Int32) (newNumber : Nat → Int64) (H : Heap) (locs : List Loc) (ls : Array Slot), b_Mo_add_229 F modes thrown products isImageKnown newMany upsOf downsOf numberOf newUps newDowns newNumber = some u → va_P (dC, dI) cls [(a_p0, .inr (4, [.int thrown, .int modes, .int products, .ref a_upsOf, .ref a_downsOf, .ref a_numberOf, .int wayKind, .ref z_rowOf, .ref z_writes, .ref z_reads, .int isImageKnown, .int madeState, .int madeSign, .ref z_matrix, .ref z_other, .int newMany, .ref a_newUps, .ref a_newDowns, .ref a_newNumber, .ref z_found, .ref z_image, .ref z_imagePlace, .int imagePower, .int imageMany, .int imageWires])), (a_upsOf, .inl (cI, 60, .inl upsOf)), (a_downsOf, .inl (cI, 60, .inl downsOf)), (a_numberOf, .inl (cJ, 60, .inr (.inl numberOf))), (a_newUps, .inl (cI, 60, .inl newUps)), (a_newDowns, .inl (cI, 60, .inl newDowns)), (a_newNumber, .inl (cJ, 60, .inr (.inl newNumber)))] H → va_D A [(a_p0, .inr (4, [.int thrown, .int modes, .int products, .ref a_upsOf, .ref a_downsOf, .ref a_numberOf, .int wayKind, .ref z_rowOf, .ref z_writes, .ref z_reads, .int isImageKnown, .int madeState, .int madeSign, .ref z_matrix, .ref z_other, .int newMany, .ref a_newUps, .ref a_newDowns, .ref a_newNumber, .ref z_found, .ref z_image, .ref z_imagePlace, .int imagePower, .int imageMany, .int imageWires])), (a_upsOf, .inl (cI, 60, .inl upsOf)), (a_downsOf, .inl (cI, 60, .inl downsOf)), (a_numberOf, .inl (cJ, 60, .inr (.inl numberOf))), (a_newUps, .inl (cI, 60, .inl newUps)), (a_newDowns, .inl (cI, 60, .inl newDowns)), (a_newNumber, .inl (cJ, 60, .inr (.inl newNumber)))] → va_S A s.heap H locs → lv_has ls 9 [(0, .ref a_p0)] → W p l e (headSpec (Cond.code y_Mo_add prog_6_method_14_code 9 (some .int) :: T0) rm_Mo_add).room s m ([.ref a_p0, .int p1, .int p2, .int p3] : List Value).toArray below meth c H locs 0 0 Q (F0 m 229 ls []) := by
    intro thrown products isImageKnown newMany upsOf downsOf numberOf newUps newDowns newNumber H locs ls hf hP hD hS hl
    rw [b_Mo_add_229] at hf
    refine lv_iconst (v := 0) hx hb d_Mo_add_229 (by decide) ?_
    exact B_230 0 thrown products isImageKnown newMany upsOf downsOf numberOf newUps newDowns newNumber H locs ls hf hP hD hS (lv_sub hl [0] rfl)
  have B_198 : ∀ (k_64 : Int32 → Int32 → Int32 → Int32 → Int32 → Int32 → Int32 → Int32 → Int32 → Int32 → Int32 → (Nat → Int32) → (Nat → Int32) → (Nat → Int64) → (Nat → Int32) → (Nat → Int32) → (Nat → Int64) → Option (Int32 × Int32 × Int32 × Int32 × Int32 × (Nat → Int32) × (Nat → Int32) × (Nat → Int64) × (Nat → Int32) × (Nat → Int32) × (Nat → Int64))) (hk_64 : ∀ (x1 : Int32) (x2 : Int32) (x3 : Int32) (x4 : Int32) (x5 : Int32) (x6 : Int32) (x7 : Int32) (thrown : Int32) (products : Int32) (isImageKnown : Int32) (newMany : Int32) (upsOf : Nat → Int32) (downsOf : Nat → Int32) (numberOf : Nat → Int64) (newUps : Nat → Int32) (newDowns : Nat → Int32) (newNumber : Nat → Int64) (H : Heap) (locs : List Loc) (ls : Array Slot), k_64 x1 x2 x3 x4 x5 x6 x7 thrown products isImageKnown newMany upsOf downsOf numberOf newUps newDowns newNumber = some u → va_P (dC, dI) cls [(a_p0, .inr (4, [.int thrown, .int modes, .int products, .ref a_upsOf, .ref a_downsOf, .ref a_numberOf, .int wayKind, .ref z_rowOf, .ref z_writes, .ref z_reads, .int isImageKnown, .int madeState, .int madeSign, .ref z_matrix, .ref z_other, .int newMany, .ref a_newUps, .ref a_newDowns, .ref a_newNumber, .ref z_found, .ref z_image, .ref z_imagePlace, .int imagePower, .int imageMany, .int imageWires])), (a_upsOf, .inl (cI, 60, .inl upsOf)), (a_downsOf, .inl (cI, 60, .inl downsOf)), (a_numberOf, .inl (cJ, 60, .inr (.inl numberOf))), (a_newUps, .inl (cI, 60, .inl newUps)), (a_newDowns, .inl (cI, 60, .inl newDowns)), (a_newNumber, .inl (cJ, 60, .inr (.inl newNumber)))] H → va_D A [(a_p0, .inr (4, [.int thrown, .int modes, .int products, .ref a_upsOf, .ref a_downsOf, .ref a_numberOf, .int wayKind, .ref z_rowOf, .ref z_writes, .ref z_reads, .int isImageKnown, .int madeState, .int madeSign, .ref z_matrix, .ref z_other, .int newMany, .ref a_newUps, .ref a_newDowns, .ref a_newNumber, .ref z_found, .ref z_image, .ref z_imagePlace, .int imagePower, .int imageMany, .int imageWires])), (a_upsOf, .inl (cI, 60, .inl upsOf)), (a_downsOf, .inl (cI, 60, .inl downsOf)), (a_numberOf, .inl (cJ, 60, .inr (.inl numberOf))), (a_newUps, .inl (cI, 60, .inl newUps)), (a_newDowns, .inl (cI, 60, .inl newDowns)), (a_newNumber, .inl (cJ, 60, .inr (.inl newNumber)))] → va_S A s.heap H locs → lv_has ls 9 [(0, .ref a_p0), (1, .int x1), (2, .int x2), (3, .int x3), (4, .int x4), (5, .int x5), (6, .int x6), (7, .int x7)] → W p l e (headSpec (Cond.code y_Mo_add prog_6_method_14_code 9 (some .int) :: T0) rm_Mo_add).room s m ([.ref a_p0, .int p1, .int p2, .int p3] : List Value).toArray below meth c H locs 0 0 Q (F0 m 64 ls [])), ∀ (x1 : Int32) (x2 : Int32) (x3 : Int32) (x4 : Int32) (x5 : Int32) (x6 : Int32) (x7 : Int32) (thrown : Int32) (products : Int32) (isImageKnown : Int32) (newMany : Int32) (upsOf : Nat → Int32) (downsOf : Nat → Int32) (numberOf : Nat → Int64) (newUps : Nat → Int32) (newDowns : Nat → Int32) (newNumber : Nat → Int64) (H : Heap) (locs : List Loc) (ls : Array Slot), b_Mo_add_198 F k_64 modes x1 x2 x3 x4 x5 x6 x7 thrown products isImageKnown newMany upsOf downsOf numberOf newUps newDowns newNumber = some u → va_P (dC, dI) cls [(a_p0, .inr (4, [.int thrown, .int modes, .int products, .ref a_upsOf, .ref a_downsOf, .ref a_numberOf, .int wayKind, .ref z_rowOf, .ref z_writes, .ref z_reads, .int isImageKnown, .int madeState, .int madeSign, .ref z_matrix, .ref z_other, .int newMany, .ref a_newUps, .ref a_newDowns, .ref a_newNumber, .ref z_found, .ref z_image, .ref z_imagePlace, .int imagePower, .int imageMany, .int imageWires])), (a_upsOf, .inl (cI, 60, .inl upsOf)), (a_downsOf, .inl (cI, 60, .inl downsOf)), (a_numberOf, .inl (cJ, 60, .inr (.inl numberOf))), (a_newUps, .inl (cI, 60, .inl newUps)), (a_newDowns, .inl (cI, 60, .inl newDowns)), (a_newNumber, .inl (cJ, 60, .inr (.inl newNumber)))] H → va_D A [(a_p0, .inr (4, [.int thrown, .int modes, .int products, .ref a_upsOf, .ref a_downsOf, .ref a_numberOf, .int wayKind, .ref z_rowOf, .ref z_writes, .ref z_reads, .int isImageKnown, .int madeState, .int madeSign, .ref z_matrix, .ref z_other, .int newMany, .ref a_newUps, .ref a_newDowns, .ref a_newNumber, .ref z_found, .ref z_image, .ref z_imagePlace, .int imagePower, .int imageMany, .int imageWires])), (a_upsOf, .inl (cI, 60, .inl upsOf)), (a_downsOf, .inl (cI, 60, .inl downsOf)), (a_numberOf, .inl (cJ, 60, .inr (.inl numberOf))), (a_newUps, .inl (cI, 60, .inl newUps)), (a_newDowns, .inl (cI, 60, .inl newDowns)), (a_newNumber, .inl (cJ, 60, .inr (.inl newNumber)))] → va_S A s.heap H locs → lv_has ls 9 [(0, .ref a_p0), (1, .int x1), (2, .int x2), (3, .int x3), (4, .int x4), (5, .int x5), (6, .int x6), (7, .int x7)] → W p l e (headSpec (Cond.code y_Mo_add prog_6_method_14_code 9 (some .int) :: T0) rm_Mo_add).room s m ([.ref a_p0, .int p1, .int p2, .int p3] : List Value).toArray below meth c H locs 0 0 Q (F0 m 198 ls []) := by
    intro k_64 hk_64
    intro x1 x2 x3 x4 x5 x6 x7 thrown products isImageKnown newMany upsOf downsOf numberOf newUps newDowns newNumber H locs ls hf hP hD hS hl
    rw [b_Mo_add_198] at hf
    obtain ⟨x7_20, e_x7_20⟩ : ∃ y : Int32, y = x7 + 1 := ⟨_, rfl⟩
    replace hf := nm_eq e_x7_20 hf
    refine lv_iinc (v := x7_20) (lv' := [(7, .int x7_20), (0, .ref a_p0), (1, .int x1), (2, .int x2), (3, .int x3), (4, .int x4), (5, .int x5), (6, .int x6)]) hx hb d_Mo_add_198 hl (k := 7) rfl (by rw [e_x7_20]; rfl) (by decide) rfl (fun ls hl => ?_)
    refine lv_goto (tgt := 64) hx hb d_Mo_add_201 (by decide) ?_
    exact hk_64 x1 x2 x3 x4 x5 x6 x7_20 thrown products isImageKnown newMany upsOf downsOf numberOf newUps newDowns newNumber H locs ls hf hP hD hS (lv_sub hl [1, 2, 3, 4, 5, 6, 7, 0] rfl)
  have B_196 : ∀ (k_64 : Int32 → Int32 → Int32 → Int32 → Int32 → Int32 → Int32 → Int32 → Int32 → Int32 → Int32 → (Nat → Int32) → (Nat → Int32) → (Nat → Int64) → (Nat → Int32) → (Nat → Int32) → (Nat → Int64) → Option (Int32 × Int32 × Int32 × Int32 × Int32 × (Nat → Int32) × (Nat → Int32) × (Nat → Int64) × (Nat → Int32) × (Nat → Int32) × (Nat → Int64))) (hk_64 : ∀ (x1 : Int32) (x2 : Int32) (x3 : Int32) (x4 : Int32) (x5 : Int32) (x6 : Int32) (x7 : Int32) (thrown : Int32) (products : Int32) (isImageKnown : Int32) (newMany : Int32) (upsOf : Nat → Int32) (downsOf : Nat → Int32) (numberOf : Nat → Int64) (newUps : Nat → Int32) (newDowns : Nat → Int32) (newNumber : Nat → Int64) (H : Heap) (locs : List Loc) (ls : Array Slot), k_64 x1 x2 x3 x4 x5 x6 x7 thrown products isImageKnown newMany upsOf downsOf numberOf newUps newDowns newNumber = some u → va_P (dC, dI) cls [(a_p0, .inr (4, [.int thrown, .int modes, .int products, .ref a_upsOf, .ref a_downsOf, .ref a_numberOf, .int wayKind, .ref z_rowOf, .ref z_writes, .ref z_reads, .int isImageKnown, .int madeState, .int madeSign, .ref z_matrix, .ref z_other, .int newMany, .ref a_newUps, .ref a_newDowns, .ref a_newNumber, .ref z_found, .ref z_image, .ref z_imagePlace, .int imagePower, .int imageMany, .int imageWires])), (a_upsOf, .inl (cI, 60, .inl upsOf)), (a_downsOf, .inl (cI, 60, .inl downsOf)), (a_numberOf, .inl (cJ, 60, .inr (.inl numberOf))), (a_newUps, .inl (cI, 60, .inl newUps)), (a_newDowns, .inl (cI, 60, .inl newDowns)), (a_newNumber, .inl (cJ, 60, .inr (.inl newNumber)))] H → va_D A [(a_p0, .inr (4, [.int thrown, .int modes, .int products, .ref a_upsOf, .ref a_downsOf, .ref a_numberOf, .int wayKind, .ref z_rowOf, .ref z_writes, .ref z_reads, .int isImageKnown, .int madeState, .int madeSign, .ref z_matrix, .ref z_other, .int newMany, .ref a_newUps, .ref a_newDowns, .ref a_newNumber, .ref z_found, .ref z_image, .ref z_imagePlace, .int imagePower, .int imageMany, .int imageWires])), (a_upsOf, .inl (cI, 60, .inl upsOf)), (a_downsOf, .inl (cI, 60, .inl downsOf)), (a_numberOf, .inl (cJ, 60, .inr (.inl numberOf))), (a_newUps, .inl (cI, 60, .inl newUps)), (a_newDowns, .inl (cI, 60, .inl newDowns)), (a_newNumber, .inl (cJ, 60, .inr (.inl newNumber)))] → va_S A s.heap H locs → lv_has ls 9 [(0, .ref a_p0), (1, .int x1), (2, .int x2), (3, .int x3), (4, .int x4), (5, .int x5), (6, .int x6), (7, .int x7)] → W p l e (headSpec (Cond.code y_Mo_add prog_6_method_14_code 9 (some .int) :: T0) rm_Mo_add).room s m ([.ref a_p0, .int p1, .int p2, .int p3] : List Value).toArray below meth c H locs 0 0 Q (F0 m 64 ls [])), ∀ (x1 : Int32) (x2 : Int32) (x3 : Int32) (x4 : Int32) (x6 : Int32) (x7 : Int32) (s0 : Int32) (thrown : Int32) (products : Int32) (isImageKnown : Int32) (newMany : Int32) (upsOf : Nat → Int32) (downsOf : Nat → Int32) (numberOf : Nat → Int64) (newUps : Nat → Int32) (newDowns : Nat → Int32) (newNumber : Nat → Int64) (H : Heap) (locs : List Loc) (ls : Array Slot), b_Mo_add_196 F k_64 modes x1 x2 x3 x4 x6 x7 s0 thrown products isImageKnown newMany upsOf downsOf numberOf newUps newDowns newNumber = some u → va_P (dC, dI) cls [(a_p0, .inr (4, [.int thrown, .int modes, .int products, .ref a_upsOf, .ref a_downsOf, .ref a_numberOf, .int wayKind, .ref z_rowOf, .ref z_writes, .ref z_reads, .int isImageKnown, .int madeState, .int madeSign, .ref z_matrix, .ref z_other, .int newMany, .ref a_newUps, .ref a_newDowns, .ref a_newNumber, .ref z_found, .ref z_image, .ref z_imagePlace, .int imagePower, .int imageMany, .int imageWires])), (a_upsOf, .inl (cI, 60, .inl upsOf)), (a_downsOf, .inl (cI, 60, .inl downsOf)), (a_numberOf, .inl (cJ, 60, .inr (.inl numberOf))), (a_newUps, .inl (cI, 60, .inl newUps)), (a_newDowns, .inl (cI, 60, .inl newDowns)), (a_newNumber, .inl (cJ, 60, .inr (.inl newNumber)))] H → va_D A [(a_p0, .inr (4, [.int thrown, .int modes, .int products, .ref a_upsOf, .ref a_downsOf, .ref a_numberOf, .int wayKind, .ref z_rowOf, .ref z_writes, .ref z_reads, .int isImageKnown, .int madeState, .int madeSign, .ref z_matrix, .ref z_other, .int newMany, .ref a_newUps, .ref a_newDowns, .ref a_newNumber, .ref z_found, .ref z_image, .ref z_imagePlace, .int imagePower, .int imageMany, .int imageWires])), (a_upsOf, .inl (cI, 60, .inl upsOf)), (a_downsOf, .inl (cI, 60, .inl downsOf)), (a_numberOf, .inl (cJ, 60, .inr (.inl numberOf))), (a_newUps, .inl (cI, 60, .inl newUps)), (a_newDowns, .inl (cI, 60, .inl newDowns)), (a_newNumber, .inl (cJ, 60, .inr (.inl newNumber)))] → va_S A s.heap H locs → lv_has ls 9 [(0, .ref a_p0), (1, .int x1), (2, .int x2), (3, .int x3), (4, .int x4), (6, .int x6), (7, .int x7)] → W p l e (headSpec (Cond.code y_Mo_add prog_6_method_14_code 9 (some .int) :: T0) rm_Mo_add).room s m ([.ref a_p0, .int p1, .int p2, .int p3] : List Value).toArray below meth c H locs 0 0 Q (F0 m 196 ls [.int s0]) := by
    intro k_64 hk_64
    intro x1 x2 x3 x4 x6 x7 s0 thrown products isImageKnown newMany upsOf downsOf numberOf newUps newDowns newNumber H locs ls hf hP hD hS hl
    rw [b_Mo_add_196] at hf
    refine lv_istore (lv' := [(5, .int s0), (0, .ref a_p0), (1, .int x1), (2, .int x2), (3, .int x3), (4, .int x4), (6, .int x6), (7, .int x7)]) hx hb d_Mo_add_196 hl (by decide) rfl (fun ls hl => ?_)
    exact B_198 k_64 hk_64 x1 x2 x3 x4 s0 x6 x7 thrown products isImageKnown newMany upsOf downsOf numberOf newUps newDowns newNumber H locs ls hf hP hD hS (lv_sub hl [1, 2, 3, 4, 5, 0, 6, 7] rfl)
  have B_195 : ∀ (k_64 : Int32 → Int32 → Int32 → Int32 → Int32 → Int32 → Int32 → Int32 → Int32 → Int32 → Int32 → (Nat → Int32) → (Nat → Int32) → (Nat → Int64) → (Nat → Int32) → (Nat → Int32) → (Nat → Int64) → Option (Int32 × Int32 × Int32 × Int32 × Int32 × (Nat → Int32) × (Nat → Int32) × (Nat → Int64) × (Nat → Int32) × (Nat → Int32) × (Nat → Int64))) (hk_64 : ∀ (x1 : Int32) (x2 : Int32) (x3 : Int32) (x4 : Int32) (x5 : Int32) (x6 : Int32) (x7 : Int32) (thrown : Int32) (products : Int32) (isImageKnown : Int32) (newMany : Int32) (upsOf : Nat → Int32) (downsOf : Nat → Int32) (numberOf : Nat → Int64) (newUps : Nat → Int32) (newDowns : Nat → Int32) (newNumber : Nat → Int64) (H : Heap) (locs : List Loc) (ls : Array Slot), k_64 x1 x2 x3 x4 x5 x6 x7 thrown products isImageKnown newMany upsOf downsOf numberOf newUps newDowns newNumber = some u → va_P (dC, dI) cls [(a_p0, .inr (4, [.int thrown, .int modes, .int products, .ref a_upsOf, .ref a_downsOf, .ref a_numberOf, .int wayKind, .ref z_rowOf, .ref z_writes, .ref z_reads, .int isImageKnown, .int madeState, .int madeSign, .ref z_matrix, .ref z_other, .int newMany, .ref a_newUps, .ref a_newDowns, .ref a_newNumber, .ref z_found, .ref z_image, .ref z_imagePlace, .int imagePower, .int imageMany, .int imageWires])), (a_upsOf, .inl (cI, 60, .inl upsOf)), (a_downsOf, .inl (cI, 60, .inl downsOf)), (a_numberOf, .inl (cJ, 60, .inr (.inl numberOf))), (a_newUps, .inl (cI, 60, .inl newUps)), (a_newDowns, .inl (cI, 60, .inl newDowns)), (a_newNumber, .inl (cJ, 60, .inr (.inl newNumber)))] H → va_D A [(a_p0, .inr (4, [.int thrown, .int modes, .int products, .ref a_upsOf, .ref a_downsOf, .ref a_numberOf, .int wayKind, .ref z_rowOf, .ref z_writes, .ref z_reads, .int isImageKnown, .int madeState, .int madeSign, .ref z_matrix, .ref z_other, .int newMany, .ref a_newUps, .ref a_newDowns, .ref a_newNumber, .ref z_found, .ref z_image, .ref z_imagePlace, .int imagePower, .int imageMany, .int imageWires])), (a_upsOf, .inl (cI, 60, .inl upsOf)), (a_downsOf, .inl (cI, 60, .inl downsOf)), (a_numberOf, .inl (cJ, 60, .inr (.inl numberOf))), (a_newUps, .inl (cI, 60, .inl newUps)), (a_newDowns, .inl (cI, 60, .inl newDowns)), (a_newNumber, .inl (cJ, 60, .inr (.inl newNumber)))] → va_S A s.heap H locs → lv_has ls 9 [(0, .ref a_p0), (1, .int x1), (2, .int x2), (3, .int x3), (4, .int x4), (5, .int x5), (6, .int x6), (7, .int x7)] → W p l e (headSpec (Cond.code y_Mo_add prog_6_method_14_code 9 (some .int) :: T0) rm_Mo_add).room s m ([.ref a_p0, .int p1, .int p2, .int p3] : List Value).toArray below meth c H locs 0 0 Q (F0 m 64 ls [])), ∀ (x1 : Int32) (x2 : Int32) (x3 : Int32) (x4 : Int32) (x6 : Int32) (x7 : Int32) (thrown : Int32) (products : Int32) (isImageKnown : Int32) (newMany : Int32) (upsOf : Nat → Int32) (downsOf : Nat → Int32) (numberOf : Nat → Int64) (newUps : Nat → Int32) (newDowns : Nat → Int32) (newNumber : Nat → Int64) (H : Heap) (locs : List Loc) (ls : Array Slot), b_Mo_add_195 F k_64 modes x1 x2 x3 x4 x6 x7 thrown products isImageKnown newMany upsOf downsOf numberOf newUps newDowns newNumber = some u → va_P (dC, dI) cls [(a_p0, .inr (4, [.int thrown, .int modes, .int products, .ref a_upsOf, .ref a_downsOf, .ref a_numberOf, .int wayKind, .ref z_rowOf, .ref z_writes, .ref z_reads, .int isImageKnown, .int madeState, .int madeSign, .ref z_matrix, .ref z_other, .int newMany, .ref a_newUps, .ref a_newDowns, .ref a_newNumber, .ref z_found, .ref z_image, .ref z_imagePlace, .int imagePower, .int imageMany, .int imageWires])), (a_upsOf, .inl (cI, 60, .inl upsOf)), (a_downsOf, .inl (cI, 60, .inl downsOf)), (a_numberOf, .inl (cJ, 60, .inr (.inl numberOf))), (a_newUps, .inl (cI, 60, .inl newUps)), (a_newDowns, .inl (cI, 60, .inl newDowns)), (a_newNumber, .inl (cJ, 60, .inr (.inl newNumber)))] H → va_D A [(a_p0, .inr (4, [.int thrown, .int modes, .int products, .ref a_upsOf, .ref a_downsOf, .ref a_numberOf, .int wayKind, .ref z_rowOf, .ref z_writes, .ref z_reads, .int isImageKnown, .int madeState, .int madeSign, .ref z_matrix, .ref z_other, .int newMany, .ref a_newUps, .ref a_newDowns, .ref a_newNumber, .ref z_found, .ref z_image, .ref z_imagePlace, .int imagePower, .int imageMany, .int imageWires])), (a_upsOf, .inl (cI, 60, .inl upsOf)), (a_downsOf, .inl (cI, 60, .inl downsOf)), (a_numberOf, .inl (cJ, 60, .inr (.inl numberOf))), (a_newUps, .inl (cI, 60, .inl newUps)), (a_newDowns, .inl (cI, 60, .inl newDowns)), (a_newNumber, .inl (cJ, 60, .inr (.inl newNumber)))] → va_S A s.heap H locs → lv_has ls 9 [(0, .ref a_p0), (1, .int x1), (2, .int x2), (3, .int x3), (4, .int x4), (6, .int x6), (7, .int x7)] → W p l e (headSpec (Cond.code y_Mo_add prog_6_method_14_code 9 (some .int) :: T0) rm_Mo_add).room s m ([.ref a_p0, .int p1, .int p2, .int p3] : List Value).toArray below meth c H locs 0 0 Q (F0 m 195 ls []) := by
    intro k_64 hk_64
    intro x1 x2 x3 x4 x6 x7 thrown products isImageKnown newMany upsOf downsOf numberOf newUps newDowns newNumber H locs ls hf hP hD hS hl
    rw [b_Mo_add_195] at hf
    refine lv_iconst (v := 0) hx hb d_Mo_add_195 (by decide) ?_
    exact B_196 k_64 hk_64 x1 x2 x3 x4 x6 x7 0 thrown products isImageKnown newMany upsOf downsOf numberOf newUps newDowns newNumber H locs ls hf hP hD hS (lv_sub hl [0, 1, 2, 3, 4, 5, 6] rfl)
  have B_151 : ∀ (k_64 : Int32 → Int32 → Int32 → Int32 → Int32 → Int32 → Int32 → Int32 → Int32 → Int32 → Int32 → (Nat → Int32) → (Nat → Int32) → (Nat → Int64) → (Nat → Int32) → (Nat → Int32) → (Nat → Int64) → Option (Int32 × Int32 × Int32 × Int32 × Int32 × (Nat → Int32) × (Nat → Int32) × (Nat → Int64) × (Nat → Int32) × (Nat → Int32) × (Nat → Int64))) (hk_64 : ∀ (x1 : Int32) (x2 : Int32) (x3 : Int32) (x4 : Int32) (x5 : Int32) (x6 : Int32) (x7 : Int32) (thrown : Int32) (products : Int32) (isImageKnown : Int32) (newMany : Int32) (upsOf : Nat → Int32) (downsOf : Nat → Int32) (numberOf : Nat → Int64) (newUps : Nat → Int32) (newDowns : Nat → Int32) (newNumber : Nat → Int64) (H : Heap) (locs : List Loc) (ls : Array Slot), k_64 x1 x2 x3 x4 x5 x6 x7 thrown products isImageKnown newMany upsOf downsOf numberOf newUps newDowns newNumber = some u → va_P (dC, dI) cls [(a_p0, .inr (4, [.int thrown, .int modes, .int products, .ref a_upsOf, .ref a_downsOf, .ref a_numberOf, .int wayKind, .ref z_rowOf, .ref z_writes, .ref z_reads, .int isImageKnown, .int madeState, .int madeSign, .ref z_matrix, .ref z_other, .int newMany, .ref a_newUps, .ref a_newDowns, .ref a_newNumber, .ref z_found, .ref z_image, .ref z_imagePlace, .int imagePower, .int imageMany, .int imageWires])), (a_upsOf, .inl (cI, 60, .inl upsOf)), (a_downsOf, .inl (cI, 60, .inl downsOf)), (a_numberOf, .inl (cJ, 60, .inr (.inl numberOf))), (a_newUps, .inl (cI, 60, .inl newUps)), (a_newDowns, .inl (cI, 60, .inl newDowns)), (a_newNumber, .inl (cJ, 60, .inr (.inl newNumber)))] H → va_D A [(a_p0, .inr (4, [.int thrown, .int modes, .int products, .ref a_upsOf, .ref a_downsOf, .ref a_numberOf, .int wayKind, .ref z_rowOf, .ref z_writes, .ref z_reads, .int isImageKnown, .int madeState, .int madeSign, .ref z_matrix, .ref z_other, .int newMany, .ref a_newUps, .ref a_newDowns, .ref a_newNumber, .ref z_found, .ref z_image, .ref z_imagePlace, .int imagePower, .int imageMany, .int imageWires])), (a_upsOf, .inl (cI, 60, .inl upsOf)), (a_downsOf, .inl (cI, 60, .inl downsOf)), (a_numberOf, .inl (cJ, 60, .inr (.inl numberOf))), (a_newUps, .inl (cI, 60, .inl newUps)), (a_newDowns, .inl (cI, 60, .inl newDowns)), (a_newNumber, .inl (cJ, 60, .inr (.inl newNumber)))] → va_S A s.heap H locs → lv_has ls 9 [(0, .ref a_p0), (1, .int x1), (2, .int x2), (3, .int x3), (4, .int x4), (5, .int x5), (6, .int x6), (7, .int x7)] → W p l e (headSpec (Cond.code y_Mo_add prog_6_method_14_code 9 (some .int) :: T0) rm_Mo_add).room s m ([.ref a_p0, .int p1, .int p2, .int p3] : List Value).toArray below meth c H locs 0 0 Q (F0 m 64 ls [])), ∀ (x1 : Int32) (x2 : Int32) (x3 : Int32) (x4 : Int32) (x5 : Int32) (x6 : Int32) (x7 : Int32) (x8 : Int32) (thrown : Int32) (products : Int32) (isImageKnown : Int32) (newMany : Int32) (upsOf : Nat → Int32) (downsOf : Nat → Int32) (numberOf : Nat → Int64) (newUps : Nat → Int32) (newDowns : Nat → Int32) (newNumber : Nat → Int64) (H : Heap) (locs : List Loc) (ls : Array Slot), b_Mo_add_151 F k_64 modes x1 x2 x3 x4 x5 x6 x7 x8 thrown products isImageKnown newMany upsOf downsOf numberOf newUps newDowns newNumber = some u → va_P (dC, dI) cls [(a_p0, .inr (4, [.int thrown, .int modes, .int products, .ref a_upsOf, .ref a_downsOf, .ref a_numberOf, .int wayKind, .ref z_rowOf, .ref z_writes, .ref z_reads, .int isImageKnown, .int madeState, .int madeSign, .ref z_matrix, .ref z_other, .int newMany, .ref a_newUps, .ref a_newDowns, .ref a_newNumber, .ref z_found, .ref z_image, .ref z_imagePlace, .int imagePower, .int imageMany, .int imageWires])), (a_upsOf, .inl (cI, 60, .inl upsOf)), (a_downsOf, .inl (cI, 60, .inl downsOf)), (a_numberOf, .inl (cJ, 60, .inr (.inl numberOf))), (a_newUps, .inl (cI, 60, .inl newUps)), (a_newDowns, .inl (cI, 60, .inl newDowns)), (a_newNumber, .inl (cJ, 60, .inr (.inl newNumber)))] H → va_D A [(a_p0, .inr (4, [.int thrown, .int modes, .int products, .ref a_upsOf, .ref a_downsOf, .ref a_numberOf, .int wayKind, .ref z_rowOf, .ref z_writes, .ref z_reads, .int isImageKnown, .int madeState, .int madeSign, .ref z_matrix, .ref z_other, .int newMany, .ref a_newUps, .ref a_newDowns, .ref a_newNumber, .ref z_found, .ref z_image, .ref z_imagePlace, .int imagePower, .int imageMany, .int imageWires])), (a_upsOf, .inl (cI, 60, .inl upsOf)), (a_downsOf, .inl (cI, 60, .inl downsOf)), (a_numberOf, .inl (cJ, 60, .inr (.inl numberOf))), (a_newUps, .inl (cI, 60, .inl newUps)), (a_newDowns, .inl (cI, 60, .inl newDowns)), (a_newNumber, .inl (cJ, 60, .inr (.inl newNumber)))] → va_S A s.heap H locs → lv_has ls 9 [(0, .ref a_p0), (1, .int x1), (2, .int x2), (3, .int x3), (4, .int x4), (5, .int x5), (6, .int x6), (7, .int x7), (8, .int x8)] → W p l e (headSpec (Cond.code y_Mo_add prog_6_method_14_code 9 (some .int) :: T0) rm_Mo_add).room s m ([.ref a_p0, .int p1, .int p2, .int p3] : List Value).toArray below meth c H locs 0 0 Q (F0 m 151 ls []) := by
    intro k_64 hk_64
    intro x1 x2 x3 x4 x5 x6 x7 x8 thrown products isImageKnown newMany upsOf downsOf numberOf newUps newDowns newNumber H locs ls hf hP hD hS hl
    rw [b_Mo_add_151] at hf
    refine lv_iload hx hb d_Mo_add_151 (lv_at hl 8 rfl) ?_
    refine lv_iload hx hb d_Mo_add_153 (lv_at hl 4 rfl) ?_
    refine lv_icmp_eq (tgt := 198) hx hb d_Mo_add_155 (by decide) (fun c_19 => ?_) (fun c_19 => ?_)
    · replace hf := if_t c_19 hf
      exact B_198 k_64 hk_64 x1 x2 x3 x4 x5 x6 x7 thrown products isImageKnown newMany upsOf downsOf numberOf newUps newDowns newNumber H locs ls hf hP hD hS (lv_sub hl [0, 1, 2, 3, 4, 5, 6, 7] rfl)
    · replace hf := if_f c_19 hf
      refine lv_iload hx hb d_Mo_add_158 (lv_at hl 5 rfl) ?_
      refine lv_if_eq (tgt := 195) hx hb d_Mo_add_160 (by decide) (fun c_21 => ?_) (fun c_21 => ?_)
      · replace hf := if_t c_21 hf
        exact B_195 k_64 hk_64 x1 x2 x3 x4 x6 x7 thrown products isImageKnown newMany upsOf downsOf numberOf newUps newDowns newNumber H locs ls hf hP hD hS (lv_sub hl [0, 1, 2, 3, 4, 6, 7] rfl)
      · replace hf := if_f c_21 hf
        refine lv_aload_n hx hb d_Mo_add_163 rfl (lv_at hl 0 rfl) ?_
        refine lv_aload_n hx hb d_Mo_add_164 rfl (lv_at hl 0 rfl) ?_
        refine va_get (D := (dC, dI)) (ci := 4) (v := .ref a_upsOf) (C := "FermionMapsModel") (T := F_Mo) (N := 25) hx hb ht0 i_Mo hown hK hP 0 rfl rfl 3 (by decide) (ht0 _ m_460) (fun _ h9 => h9) rfl d_Mo_add_165 ?_
        refine lv_iload hx hb d_Mo_add_168 (lv_at hl 7 rfl) ?_
        obtain ⟨hi_22, hf⟩ := ckI_ok hf
        refine va_iald hx hb hK hP 1 0 rfl rfl hi_22 d_Mo_add_170 ?_
        refine lv_aload_n hx hb d_Mo_add_171 rfl (lv_at hl 0 rfl) ?_
        refine va_get (D := (dC, dI)) (ci := 4) (v := .ref a_downsOf) (C := "FermionMapsModel") (T := F_Mo) (N := 25) hx hb ht0 i_Mo hown hK hP 0 rfl rfl 4 (by decide) (ht0 _ m_461) (fun _ h9 => h9) rfl d_Mo_add_172 ?_
        refine lv_iload hx hb d_Mo_add_175 (lv_at hl 7 rfl) ?_
        obtain ⟨hi_23, hf⟩ := ckI_ok hf
        refine va_iald hx hb hK hP 2 0 rfl rfl hi_23 d_Mo_add_177 ?_
        refine lv_aload_n hx hb d_Mo_add_178 rfl (lv_at hl 0 rfl) ?_
        refine va_get (D := (dC, dI)) (ci := 4) (v := .ref a_numberOf) (C := "FermionMapsModel") (T := F_Mo) (N := 25) hx hb ht0 i_Mo hown hK hP 0 rfl rfl 5 (by decide) (ht0 _ m_462) (fun _ h9 => h9) rfl d_Mo_add_179 ?_
        refine lv_iload hx hb d_Mo_add_182 (lv_at hl 7 rfl) ?_
        obtain ⟨hi_24, hf⟩ := ckI_ok hf
        refine va_lald hx hb hK hP 3 1 rfl rfl hi_24 d_Mo_add_184 ?_
        obtain ⟨u_25, h_u_25, hf⟩ := bd hf
        refine wr_i (wr := [(a_upsOf, .inl (cI, 60, .inl upsOf)), (a_downsOf, .inl (cI, 60, .inl downsOf)), (a_numberOf, .inl (cJ, 60, .inr (.inl numberOf)))]) (wrV_run (As := [.int (upsOf x7.toNatClampNeg), .int (downsOf x7.toNatClampNeg), .long (numberOf x7.toNatClampNeg)]) (rest := []) ⟨hx, hb, hml, hown, ht0⟩ (c_Mo_put l dC dI cI cJ a_p0 a_newUps a_newDowns a_newNumber a_upsOf a_downsOf a_numberOf z_rowOf z_writes z_reads z_matrix z_other z_found z_image z_imagePlace H.size thrown modes products wayKind isImageKnown madeState madeSign newMany imagePower imageMany imageWires newUps newDowns newNumber (upsOf x7.toNatClampNeg) (downsOf x7.toNatClampNeg) (numberOf x7.toNatClampNeg) F u_25 h_u_25) (cwV 3 ht0 (gV m_551 m_553 (T0_pr (y := ⟨"FermionMapsModel", "put", "(IIJ)Z"⟩) (i := 8) rfl rfl) m_5 m_554) rfl rfl rfl (by decide +kernel) ⟨Nat.le_of_ble_eq_true rfl, Nat.le_of_ble_eq_true rfl⟩) hK hNW hP hD [0, 4, 5, 6] rfl rfl (by decide) (ci := 4) (q0 := 0) rfl rfl rfl hl.1 rfl (Nat.le_of_ble_eq_true rfl) d_Mo_add_185 ⟨Nat.zero_le _, Nat.zero_le _⟩) hP hD hS hA [0, 4, 5, 6] [1, 2, 3] rfl rfl (by decide) (by decide) (fun w1 H locs hw hP hD hS => ?_)
        obtain rfl := hw
        have hP : va_P (dC, dI) cls [(a_p0, .inr (4, [.int thrown, .int modes, .int products, .ref a_upsOf, .ref a_downsOf, .ref a_numberOf, .int wayKind, .ref z_rowOf, .ref z_writes, .ref z_reads, .int isImageKnown, .int madeState, .int madeSign, .ref z_matrix, .ref z_other, .int u_25.2.1, .ref a_newUps, .ref a_newDowns, .ref a_newNumber, .ref z_found, .ref z_image, .ref z_imagePlace, .int imagePower, .int imageMany, .int imageWires])), (a_upsOf, .inl (cI, 60, .inl upsOf)), (a_downsOf, .inl (cI, 60, .inl downsOf)), (a_numberOf, .inl (cJ, 60, .inr (.inl numberOf))), (a_newUps, .inl (cI, 60, .inl u_25.2.2.1)), (a_newDowns, .inl (cI, 60, .inl u_25.2.2.2.1)), (a_newNumber, .inl (cJ, 60, .inr (.inl u_25.2.2.2.2)))] H := hP.sub [3, 0, 1, 2, 4, 5, 6] rfl
        have hD : va_D A [(a_p0, .inr (4, [.int thrown, .int modes, .int products, .ref a_upsOf, .ref a_downsOf, .ref a_numberOf, .int wayKind, .ref z_rowOf, .ref z_writes, .ref z_reads, .int isImageKnown, .int madeState, .int madeSign, .ref z_matrix, .ref z_other, .int u_25.2.1, .ref a_newUps, .ref a_newDowns, .ref a_newNumber, .ref z_found, .ref z_image, .ref z_imagePlace, .int imagePower, .int imageMany, .int imageWires])), (a_upsOf, .inl (cI, 60, .inl upsOf)), (a_downsOf, .inl (cI, 60, .inl downsOf)), (a_numberOf, .inl (cJ, 60, .inr (.inl numberOf))), (a_newUps, .inl (cI, 60, .inl u_25.2.2.1)), (a_newDowns, .inl (cI, 60, .inl u_25.2.2.2.1)), (a_newNumber, .inl (cJ, 60, .inr (.inl u_25.2.2.2.2)))] := hD.sub [3, 0, 1, 2, 4, 5, 6] (by decide) rfl
        refine lv_if_eq (tgt := 195) hx hb d_Mo_add_188 (by decide) (fun c_26 => ?_) (fun c_26 => ?_)
        · replace hf := if_t c_26 hf
          exact B_195 k_64 hk_64 x1 x2 x3 x4 x6 x7 thrown products isImageKnown u_25.2.1 upsOf downsOf numberOf u_25.2.2.1 u_25.2.2.2.1 u_25.2.2.2.2 H locs ls hf hP hD hS (lv_sub hl [0, 1, 2, 3, 4, 6, 7] rfl)
        · replace hf := if_f c_26 hf
          refine lv_iconst (v := 1) hx hb d_Mo_add_191 (by decide) ?_
          refine lv_goto (tgt := 196) hx hb d_Mo_add_192 (by decide) ?_
          exact B_196 k_64 hk_64 x1 x2 x3 x4 x6 x7 1 thrown products isImageKnown u_25.2.1 upsOf downsOf numberOf u_25.2.2.1 u_25.2.2.2.1 u_25.2.2.2.2 H locs ls hf hP hD hS (lv_sub hl [0, 1, 2, 3, 4, 6, 7] rfl)
  have B_149 : ∀ (k_64 : Int32 → Int32 → Int32 → Int32 → Int32 → Int32 → Int32 → Int32 → Int32 → Int32 → Int32 → (Nat → Int32) → (Nat → Int32) → (Nat → Int64) → (Nat → Int32) → (Nat → Int32) → (Nat → Int64) → Option (Int32 × Int32 × Int32 × Int32 × Int32 × (Nat → Int32) × (Nat → Int32) × (Nat → Int64) × (Nat → Int32) × (Nat → Int32) × (Nat → Int64))) (hk_64 : ∀ (x1 : Int32) (x2 : Int32) (x3 : Int32) (x4 : Int32) (x5 : Int32) (x6 : Int32) (x7 : Int32) (thrown : Int32) (products : Int32) (isImageKnown : Int32) (newMany : Int32) (upsOf : Nat → Int32) (downsOf : Nat → Int32) (numberOf : Nat → Int64) (newUps : Nat → Int32) (newDowns : Nat → Int32) (newNumber : Nat → Int64) (H : Heap) (locs : List Loc) (ls : Array Slot), k_64 x1 x2 x3 x4 x5 x6 x7 thrown products isImageKnown newMany upsOf downsOf numberOf newUps newDowns newNumber = some u → va_P (dC, dI) cls [(a_p0, .inr (4, [.int thrown, .int modes, .int products, .ref a_upsOf, .ref a_downsOf, .ref a_numberOf, .int wayKind, .ref z_rowOf, .ref z_writes, .ref z_reads, .int isImageKnown, .int madeState, .int madeSign, .ref z_matrix, .ref z_other, .int newMany, .ref a_newUps, .ref a_newDowns, .ref a_newNumber, .ref z_found, .ref z_image, .ref z_imagePlace, .int imagePower, .int imageMany, .int imageWires])), (a_upsOf, .inl (cI, 60, .inl upsOf)), (a_downsOf, .inl (cI, 60, .inl downsOf)), (a_numberOf, .inl (cJ, 60, .inr (.inl numberOf))), (a_newUps, .inl (cI, 60, .inl newUps)), (a_newDowns, .inl (cI, 60, .inl newDowns)), (a_newNumber, .inl (cJ, 60, .inr (.inl newNumber)))] H → va_D A [(a_p0, .inr (4, [.int thrown, .int modes, .int products, .ref a_upsOf, .ref a_downsOf, .ref a_numberOf, .int wayKind, .ref z_rowOf, .ref z_writes, .ref z_reads, .int isImageKnown, .int madeState, .int madeSign, .ref z_matrix, .ref z_other, .int newMany, .ref a_newUps, .ref a_newDowns, .ref a_newNumber, .ref z_found, .ref z_image, .ref z_imagePlace, .int imagePower, .int imageMany, .int imageWires])), (a_upsOf, .inl (cI, 60, .inl upsOf)), (a_downsOf, .inl (cI, 60, .inl downsOf)), (a_numberOf, .inl (cJ, 60, .inr (.inl numberOf))), (a_newUps, .inl (cI, 60, .inl newUps)), (a_newDowns, .inl (cI, 60, .inl newDowns)), (a_newNumber, .inl (cJ, 60, .inr (.inl newNumber)))] → va_S A s.heap H locs → lv_has ls 9 [(0, .ref a_p0), (1, .int x1), (2, .int x2), (3, .int x3), (4, .int x4), (5, .int x5), (6, .int x6), (7, .int x7)] → W p l e (headSpec (Cond.code y_Mo_add prog_6_method_14_code 9 (some .int) :: T0) rm_Mo_add).room s m ([.ref a_p0, .int p1, .int p2, .int p3] : List Value).toArray below meth c H locs 0 0 Q (F0 m 64 ls [])), ∀ (x1 : Int32) (x2 : Int32) (x3 : Int32) (x4 : Int32) (x6 : Int32) (x7 : Int32) (x8 : Int32) (s0 : Int32) (thrown : Int32) (products : Int32) (isImageKnown : Int32) (newMany : Int32) (upsOf : Nat → Int32) (downsOf : Nat → Int32) (numberOf : Nat → Int64) (newUps : Nat → Int32) (newDowns : Nat → Int32) (newNumber : Nat → Int64) (H : Heap) (locs : List Loc) (ls : Array Slot), b_Mo_add_149 F k_64 modes x1 x2 x3 x4 x6 x7 x8 s0 thrown products isImageKnown newMany upsOf downsOf numberOf newUps newDowns newNumber = some u → va_P (dC, dI) cls [(a_p0, .inr (4, [.int thrown, .int modes, .int products, .ref a_upsOf, .ref a_downsOf, .ref a_numberOf, .int wayKind, .ref z_rowOf, .ref z_writes, .ref z_reads, .int isImageKnown, .int madeState, .int madeSign, .ref z_matrix, .ref z_other, .int newMany, .ref a_newUps, .ref a_newDowns, .ref a_newNumber, .ref z_found, .ref z_image, .ref z_imagePlace, .int imagePower, .int imageMany, .int imageWires])), (a_upsOf, .inl (cI, 60, .inl upsOf)), (a_downsOf, .inl (cI, 60, .inl downsOf)), (a_numberOf, .inl (cJ, 60, .inr (.inl numberOf))), (a_newUps, .inl (cI, 60, .inl newUps)), (a_newDowns, .inl (cI, 60, .inl newDowns)), (a_newNumber, .inl (cJ, 60, .inr (.inl newNumber)))] H → va_D A [(a_p0, .inr (4, [.int thrown, .int modes, .int products, .ref a_upsOf, .ref a_downsOf, .ref a_numberOf, .int wayKind, .ref z_rowOf, .ref z_writes, .ref z_reads, .int isImageKnown, .int madeState, .int madeSign, .ref z_matrix, .ref z_other, .int newMany, .ref a_newUps, .ref a_newDowns, .ref a_newNumber, .ref z_found, .ref z_image, .ref z_imagePlace, .int imagePower, .int imageMany, .int imageWires])), (a_upsOf, .inl (cI, 60, .inl upsOf)), (a_downsOf, .inl (cI, 60, .inl downsOf)), (a_numberOf, .inl (cJ, 60, .inr (.inl numberOf))), (a_newUps, .inl (cI, 60, .inl newUps)), (a_newDowns, .inl (cI, 60, .inl newDowns)), (a_newNumber, .inl (cJ, 60, .inr (.inl newNumber)))] → va_S A s.heap H locs → lv_has ls 9 [(0, .ref a_p0), (1, .int x1), (2, .int x2), (3, .int x3), (4, .int x4), (6, .int x6), (7, .int x7), (8, .int x8)] → W p l e (headSpec (Cond.code y_Mo_add prog_6_method_14_code 9 (some .int) :: T0) rm_Mo_add).room s m ([.ref a_p0, .int p1, .int p2, .int p3] : List Value).toArray below meth c H locs 0 0 Q (F0 m 149 ls [.int s0]) := by
    intro k_64 hk_64
    intro x1 x2 x3 x4 x6 x7 x8 s0 thrown products isImageKnown newMany upsOf downsOf numberOf newUps newDowns newNumber H locs ls hf hP hD hS hl
    rw [b_Mo_add_149] at hf
    refine lv_istore (lv' := [(5, .int s0), (0, .ref a_p0), (1, .int x1), (2, .int x2), (3, .int x3), (4, .int x4), (6, .int x6), (7, .int x7), (8, .int x8)]) hx hb d_Mo_add_149 hl (by decide) rfl (fun ls hl => ?_)
    exact B_151 k_64 hk_64 x1 x2 x3 x4 s0 x6 x7 x8 thrown products isImageKnown newMany upsOf downsOf numberOf newUps newDowns newNumber H locs ls hf hP hD hS (lv_sub hl [1, 2, 3, 4, 5, 0, 6, 7, 8] rfl)
  have B_148 : ∀ (k_64 : Int32 → Int32 → Int32 → Int32 → Int32 → Int32 → Int32 → Int32 → Int32 → Int32 → Int32 → (Nat → Int32) → (Nat → Int32) → (Nat → Int64) → (Nat → Int32) → (Nat → Int32) → (Nat → Int64) → Option (Int32 × Int32 × Int32 × Int32 × Int32 × (Nat → Int32) × (Nat → Int32) × (Nat → Int64) × (Nat → Int32) × (Nat → Int32) × (Nat → Int64))) (hk_64 : ∀ (x1 : Int32) (x2 : Int32) (x3 : Int32) (x4 : Int32) (x5 : Int32) (x6 : Int32) (x7 : Int32) (thrown : Int32) (products : Int32) (isImageKnown : Int32) (newMany : Int32) (upsOf : Nat → Int32) (downsOf : Nat → Int32) (numberOf : Nat → Int64) (newUps : Nat → Int32) (newDowns : Nat → Int32) (newNumber : Nat → Int64) (H : Heap) (locs : List Loc) (ls : Array Slot), k_64 x1 x2 x3 x4 x5 x6 x7 thrown products isImageKnown newMany upsOf downsOf numberOf newUps newDowns newNumber = some u → va_P (dC, dI) cls [(a_p0, .inr (4, [.int thrown, .int modes, .int products, .ref a_upsOf, .ref a_downsOf, .ref a_numberOf, .int wayKind, .ref z_rowOf, .ref z_writes, .ref z_reads, .int isImageKnown, .int madeState, .int madeSign, .ref z_matrix, .ref z_other, .int newMany, .ref a_newUps, .ref a_newDowns, .ref a_newNumber, .ref z_found, .ref z_image, .ref z_imagePlace, .int imagePower, .int imageMany, .int imageWires])), (a_upsOf, .inl (cI, 60, .inl upsOf)), (a_downsOf, .inl (cI, 60, .inl downsOf)), (a_numberOf, .inl (cJ, 60, .inr (.inl numberOf))), (a_newUps, .inl (cI, 60, .inl newUps)), (a_newDowns, .inl (cI, 60, .inl newDowns)), (a_newNumber, .inl (cJ, 60, .inr (.inl newNumber)))] H → va_D A [(a_p0, .inr (4, [.int thrown, .int modes, .int products, .ref a_upsOf, .ref a_downsOf, .ref a_numberOf, .int wayKind, .ref z_rowOf, .ref z_writes, .ref z_reads, .int isImageKnown, .int madeState, .int madeSign, .ref z_matrix, .ref z_other, .int newMany, .ref a_newUps, .ref a_newDowns, .ref a_newNumber, .ref z_found, .ref z_image, .ref z_imagePlace, .int imagePower, .int imageMany, .int imageWires])), (a_upsOf, .inl (cI, 60, .inl upsOf)), (a_downsOf, .inl (cI, 60, .inl downsOf)), (a_numberOf, .inl (cJ, 60, .inr (.inl numberOf))), (a_newUps, .inl (cI, 60, .inl newUps)), (a_newDowns, .inl (cI, 60, .inl newDowns)), (a_newNumber, .inl (cJ, 60, .inr (.inl newNumber)))] → va_S A s.heap H locs → lv_has ls 9 [(0, .ref a_p0), (1, .int x1), (2, .int x2), (3, .int x3), (4, .int x4), (5, .int x5), (6, .int x6), (7, .int x7)] → W p l e (headSpec (Cond.code y_Mo_add prog_6_method_14_code 9 (some .int) :: T0) rm_Mo_add).room s m ([.ref a_p0, .int p1, .int p2, .int p3] : List Value).toArray below meth c H locs 0 0 Q (F0 m 64 ls [])), ∀ (x1 : Int32) (x2 : Int32) (x3 : Int32) (x4 : Int32) (x6 : Int32) (x7 : Int32) (x8 : Int32) (thrown : Int32) (products : Int32) (isImageKnown : Int32) (newMany : Int32) (upsOf : Nat → Int32) (downsOf : Nat → Int32) (numberOf : Nat → Int64) (newUps : Nat → Int32) (newDowns : Nat → Int32) (newNumber : Nat → Int64) (H : Heap) (locs : List Loc) (ls : Array Slot), b_Mo_add_148 F k_64 modes x1 x2 x3 x4 x6 x7 x8 thrown products isImageKnown newMany upsOf downsOf numberOf newUps newDowns newNumber = some u → va_P (dC, dI) cls [(a_p0, .inr (4, [.int thrown, .int modes, .int products, .ref a_upsOf, .ref a_downsOf, .ref a_numberOf, .int wayKind, .ref z_rowOf, .ref z_writes, .ref z_reads, .int isImageKnown, .int madeState, .int madeSign, .ref z_matrix, .ref z_other, .int newMany, .ref a_newUps, .ref a_newDowns, .ref a_newNumber, .ref z_found, .ref z_image, .ref z_imagePlace, .int imagePower, .int imageMany, .int imageWires])), (a_upsOf, .inl (cI, 60, .inl upsOf)), (a_downsOf, .inl (cI, 60, .inl downsOf)), (a_numberOf, .inl (cJ, 60, .inr (.inl numberOf))), (a_newUps, .inl (cI, 60, .inl newUps)), (a_newDowns, .inl (cI, 60, .inl newDowns)), (a_newNumber, .inl (cJ, 60, .inr (.inl newNumber)))] H → va_D A [(a_p0, .inr (4, [.int thrown, .int modes, .int products, .ref a_upsOf, .ref a_downsOf, .ref a_numberOf, .int wayKind, .ref z_rowOf, .ref z_writes, .ref z_reads, .int isImageKnown, .int madeState, .int madeSign, .ref z_matrix, .ref z_other, .int newMany, .ref a_newUps, .ref a_newDowns, .ref a_newNumber, .ref z_found, .ref z_image, .ref z_imagePlace, .int imagePower, .int imageMany, .int imageWires])), (a_upsOf, .inl (cI, 60, .inl upsOf)), (a_downsOf, .inl (cI, 60, .inl downsOf)), (a_numberOf, .inl (cJ, 60, .inr (.inl numberOf))), (a_newUps, .inl (cI, 60, .inl newUps)), (a_newDowns, .inl (cI, 60, .inl newDowns)), (a_newNumber, .inl (cJ, 60, .inr (.inl newNumber)))] → va_S A s.heap H locs → lv_has ls 9 [(0, .ref a_p0), (1, .int x1), (2, .int x2), (3, .int x3), (4, .int x4), (6, .int x6), (7, .int x7), (8, .int x8)] → W p l e (headSpec (Cond.code y_Mo_add prog_6_method_14_code 9 (some .int) :: T0) rm_Mo_add).room s m ([.ref a_p0, .int p1, .int p2, .int p3] : List Value).toArray below meth c H locs 0 0 Q (F0 m 148 ls []) := by
    intro k_64 hk_64
    intro x1 x2 x3 x4 x6 x7 x8 thrown products isImageKnown newMany upsOf downsOf numberOf newUps newDowns newNumber H locs ls hf hP hD hS hl
    rw [b_Mo_add_148] at hf
    refine lv_iconst (v := 0) hx hb d_Mo_add_148 (by decide) ?_
    exact B_149 k_64 hk_64 x1 x2 x3 x4 x6 x7 x8 0 thrown products isImageKnown newMany upsOf downsOf numberOf newUps newDowns newNumber H locs ls hf hP hD hS (lv_sub hl [0, 1, 2, 3, 4, 5, 6, 7] rfl)
  have B_137 : ∀ (k_64 : Int32 → Int32 → Int32 → Int32 → Int32 → Int32 → Int32 → Int32 → Int32 → Int32 → Int32 → (Nat → Int32) → (Nat → Int32) → (Nat → Int64) → (Nat → Int32) → (Nat → Int32) → (Nat → Int64) → Option (Int32 × Int32 × Int32 × Int32 × Int32 × (Nat → Int32) × (Nat → Int32) × (Nat → Int64) × (Nat → Int32) × (Nat → Int32) × (Nat → Int64))) (hk_64 : ∀ (x1 : Int32) (x2 : Int32) (x3 : Int32) (x4 : Int32) (x5 : Int32) (x6 : Int32) (x7 : Int32) (thrown : Int32) (products : Int32) (isImageKnown : Int32) (newMany : Int32) (upsOf : Nat → Int32) (downsOf : Nat → Int32) (numberOf : Nat → Int64) (newUps : Nat → Int32) (newDowns : Nat → Int32) (newNumber : Nat → Int64) (H : Heap) (locs : List Loc) (ls : Array Slot), k_64 x1 x2 x3 x4 x5 x6 x7 thrown products isImageKnown newMany upsOf downsOf numberOf newUps newDowns newNumber = some u → va_P (dC, dI) cls [(a_p0, .inr (4, [.int thrown, .int modes, .int products, .ref a_upsOf, .ref a_downsOf, .ref a_numberOf, .int wayKind, .ref z_rowOf, .ref z_writes, .ref z_reads, .int isImageKnown, .int madeState, .int madeSign, .ref z_matrix, .ref z_other, .int newMany, .ref a_newUps, .ref a_newDowns, .ref a_newNumber, .ref z_found, .ref z_image, .ref z_imagePlace, .int imagePower, .int imageMany, .int imageWires])), (a_upsOf, .inl (cI, 60, .inl upsOf)), (a_downsOf, .inl (cI, 60, .inl downsOf)), (a_numberOf, .inl (cJ, 60, .inr (.inl numberOf))), (a_newUps, .inl (cI, 60, .inl newUps)), (a_newDowns, .inl (cI, 60, .inl newDowns)), (a_newNumber, .inl (cJ, 60, .inr (.inl newNumber)))] H → va_D A [(a_p0, .inr (4, [.int thrown, .int modes, .int products, .ref a_upsOf, .ref a_downsOf, .ref a_numberOf, .int wayKind, .ref z_rowOf, .ref z_writes, .ref z_reads, .int isImageKnown, .int madeState, .int madeSign, .ref z_matrix, .ref z_other, .int newMany, .ref a_newUps, .ref a_newDowns, .ref a_newNumber, .ref z_found, .ref z_image, .ref z_imagePlace, .int imagePower, .int imageMany, .int imageWires])), (a_upsOf, .inl (cI, 60, .inl upsOf)), (a_downsOf, .inl (cI, 60, .inl downsOf)), (a_numberOf, .inl (cJ, 60, .inr (.inl numberOf))), (a_newUps, .inl (cI, 60, .inl newUps)), (a_newDowns, .inl (cI, 60, .inl newDowns)), (a_newNumber, .inl (cJ, 60, .inr (.inl newNumber)))] → va_S A s.heap H locs → lv_has ls 9 [(0, .ref a_p0), (1, .int x1), (2, .int x2), (3, .int x3), (4, .int x4), (5, .int x5), (6, .int x6), (7, .int x7)] → W p l e (headSpec (Cond.code y_Mo_add prog_6_method_14_code 9 (some .int) :: T0) rm_Mo_add).room s m ([.ref a_p0, .int p1, .int p2, .int p3] : List Value).toArray below meth c H locs 0 0 Q (F0 m 64 ls [])), ∀ (x1 : Int32) (x2 : Int32) (x3 : Int32) (x4 : Int32) (x6 : Int32) (x7 : Int32) (x8 : Int32) (s1 : Int32) (s2 : Int32) (s3 : Int64) (s4 : Int64) (thrown : Int32) (products : Int32) (isImageKnown : Int32) (newMany : Int32) (upsOf : Nat → Int32) (downsOf : Nat → Int32) (numberOf : Nat → Int64) (newUps : Nat → Int32) (newDowns : Nat → Int32) (newNumber : Nat → Int64) (H : Heap) (locs : List Loc) (ls : Array Slot), b_Mo_add_137 F k_64 modes x1 x2 x3 x4 x6 x7 x8 s1 s2 s3 s4 thrown products isImageKnown newMany upsOf downsOf numberOf newUps newDowns newNumber = some u → va_P (dC, dI) cls [(a_p0, .inr (4, [.int thrown, .int modes, .int products, .ref a_upsOf, .ref a_downsOf, .ref a_numberOf, .int wayKind, .ref z_rowOf, .ref z_writes, .ref z_reads, .int isImageKnown, .int madeState, .int madeSign, .ref z_matrix, .ref z_other, .int newMany, .ref a_newUps, .ref a_newDowns, .ref a_newNumber, .ref z_found, .ref z_image, .ref z_imagePlace, .int imagePower, .int imageMany, .int imageWires])), (a_upsOf, .inl (cI, 60, .inl upsOf)), (a_downsOf, .inl (cI, 60, .inl downsOf)), (a_numberOf, .inl (cJ, 60, .inr (.inl numberOf))), (a_newUps, .inl (cI, 60, .inl newUps)), (a_newDowns, .inl (cI, 60, .inl newDowns)), (a_newNumber, .inl (cJ, 60, .inr (.inl newNumber)))] H → va_D A [(a_p0, .inr (4, [.int thrown, .int modes, .int products, .ref a_upsOf, .ref a_downsOf, .ref a_numberOf, .int wayKind, .ref z_rowOf, .ref z_writes, .ref z_reads, .int isImageKnown, .int madeState, .int madeSign, .ref z_matrix, .ref z_other, .int newMany, .ref a_newUps, .ref a_newDowns, .ref a_newNumber, .ref z_found, .ref z_image, .ref z_imagePlace, .int imagePower, .int imageMany, .int imageWires])), (a_upsOf, .inl (cI, 60, .inl upsOf)), (a_downsOf, .inl (cI, 60, .inl downsOf)), (a_numberOf, .inl (cJ, 60, .inr (.inl numberOf))), (a_newUps, .inl (cI, 60, .inl newUps)), (a_newDowns, .inl (cI, 60, .inl newDowns)), (a_newNumber, .inl (cJ, 60, .inr (.inl newNumber)))] → va_S A s.heap H locs → lv_has ls 9 [(0, .ref a_p0), (1, .int x1), (2, .int x2), (3, .int x3), (4, .int x4), (6, .int x6), (7, .int x7), (8, .int x8)] → W p l e (headSpec (Cond.code y_Mo_add prog_6_method_14_code 9 (some .int) :: T0) rm_Mo_add).room s m ([.ref a_p0, .int p1, .int p2, .int p3] : List Value).toArray below meth c H locs 0 0 Q (F0 m 137 ls [.long s4, .long s3, .int s2, .int s1, .ref a_p0]) := by
    intro k_64 hk_64
    intro x1 x2 x3 x4 x6 x7 x8 s1 s2 s3 s4 thrown products isImageKnown newMany upsOf downsOf numberOf newUps newDowns newNumber H locs ls hf hP hD hS hl
    rw [b_Mo_add_137] at hf
    refine lv_ladd hx hb d_Mo_add_137 ?_
    obtain ⟨u_30, h_u_30, hf⟩ := bd hf
    refine wr_i (wr := [(a_upsOf, .inl (cI, 60, .inl upsOf)), (a_downsOf, .inl (cI, 60, .inl downsOf)), (a_numberOf, .inl (cJ, 60, .inr (.inl numberOf)))]) (wrV_run (As := [.int s1, .int s2, .long (s3 + s4)]) (rest := []) ⟨hx, hb, hml, hown, ht0⟩ (c_Mo_put l dC dI cI cJ a_p0 a_newUps a_newDowns a_newNumber a_upsOf a_downsOf a_numberOf z_rowOf z_writes z_reads z_matrix z_other z_found z_image z_imagePlace H.size thrown modes products wayKind isImageKnown madeState madeSign newMany imagePower imageMany imageWires newUps newDowns newNumber s1 s2 (s3 + s4) F u_30 h_u_30) (cwV 3 ht0 (gV m_551 m_553 (T0_pr (y := ⟨"FermionMapsModel", "put", "(IIJ)Z"⟩) (i := 8) rfl rfl) m_5 m_554) rfl rfl rfl (by decide +kernel) ⟨Nat.le_of_ble_eq_true rfl, Nat.le_of_ble_eq_true rfl⟩) hK hNW hP hD [0, 4, 5, 6] rfl rfl (by decide) (ci := 4) (q0 := 0) rfl rfl rfl hl.1 rfl (Nat.le_of_ble_eq_true rfl) d_Mo_add_138 ⟨Nat.zero_le _, Nat.zero_le _⟩) hP hD hS hA [0, 4, 5, 6] [1, 2, 3] rfl rfl (by decide) (by decide) (fun w1 H locs hw hP hD hS => ?_)
    obtain rfl := hw
    have hP : va_P (dC, dI) cls [(a_p0, .inr (4, [.int thrown, .int modes, .int products, .ref a_upsOf, .ref a_downsOf, .ref a_numberOf, .int wayKind, .ref z_rowOf, .ref z_writes, .ref z_reads, .int isImageKnown, .int madeState, .int madeSign, .ref z_matrix, .ref z_other, .int u_30.2.1, .ref a_newUps, .ref a_newDowns, .ref a_newNumber, .ref z_found, .ref z_image, .ref z_imagePlace, .int imagePower, .int imageMany, .int imageWires])), (a_upsOf, .inl (cI, 60, .inl upsOf)), (a_downsOf, .inl (cI, 60, .inl downsOf)), (a_numberOf, .inl (cJ, 60, .inr (.inl numberOf))), (a_newUps, .inl (cI, 60, .inl u_30.2.2.1)), (a_newDowns, .inl (cI, 60, .inl u_30.2.2.2.1)), (a_newNumber, .inl (cJ, 60, .inr (.inl u_30.2.2.2.2)))] H := hP.sub [3, 0, 1, 2, 4, 5, 6] rfl
    have hD : va_D A [(a_p0, .inr (4, [.int thrown, .int modes, .int products, .ref a_upsOf, .ref a_downsOf, .ref a_numberOf, .int wayKind, .ref z_rowOf, .ref z_writes, .ref z_reads, .int isImageKnown, .int madeState, .int madeSign, .ref z_matrix, .ref z_other, .int u_30.2.1, .ref a_newUps, .ref a_newDowns, .ref a_newNumber, .ref z_found, .ref z_image, .ref z_imagePlace, .int imagePower, .int imageMany, .int imageWires])), (a_upsOf, .inl (cI, 60, .inl upsOf)), (a_downsOf, .inl (cI, 60, .inl downsOf)), (a_numberOf, .inl (cJ, 60, .inr (.inl numberOf))), (a_newUps, .inl (cI, 60, .inl u_30.2.2.1)), (a_newDowns, .inl (cI, 60, .inl u_30.2.2.2.1)), (a_newNumber, .inl (cJ, 60, .inr (.inl u_30.2.2.2.2)))] := hD.sub [3, 0, 1, 2, 4, 5, 6] (by decide) rfl
    refine lv_if_eq (tgt := 148) hx hb d_Mo_add_141 (by decide) (fun c_31 => ?_) (fun c_31 => ?_)
    · replace hf := if_t c_31 hf
      exact B_148 k_64 hk_64 x1 x2 x3 x4 x6 x7 x8 thrown products isImageKnown u_30.2.1 upsOf downsOf numberOf u_30.2.2.1 u_30.2.2.2.1 u_30.2.2.2.2 H locs ls hf hP hD hS (lv_sub hl [0, 1, 2, 3, 4, 5, 6, 7] rfl)
    · replace hf := if_f c_31 hf
      refine lv_iconst (v := 1) hx hb d_Mo_add_144 (by decide) ?_
      refine lv_goto (tgt := 149) hx hb d_Mo_add_145 (by decide) ?_
      exact B_149 k_64 hk_64 x1 x2 x3 x4 x6 x7 x8 1 thrown products isImageKnown u_30.2.1 upsOf downsOf numberOf u_30.2.2.1 u_30.2.2.2.1 u_30.2.2.2.2 H locs ls hf hP hD hS (lv_sub hl [0, 1, 2, 3, 4, 5, 6, 7] rfl)
  have B_64 : ∀ (n : Nat), ∀ (x1 : Int32) (x2 : Int32) (x3 : Int32) (x4 : Int32) (x5 : Int32) (x6 : Int32) (x7 : Int32) (thrown : Int32) (products : Int32) (isImageKnown : Int32) (newMany : Int32) (upsOf : Nat → Int32) (downsOf : Nat → Int32) (numberOf : Nat → Int64) (newUps : Nat → Int32) (newDowns : Nat → Int32) (newNumber : Nat → Int64) (H : Heap) (locs : List Loc) (ls : Array Slot), b_Mo_add_64 F modes n x1 x2 x3 x4 x5 x6 x7 thrown products isImageKnown newMany upsOf downsOf numberOf newUps newDowns newNumber = some u → va_P (dC, dI) cls [(a_p0, .inr (4, [.int thrown, .int modes, .int products, .ref a_upsOf, .ref a_downsOf, .ref a_numberOf, .int wayKind, .ref z_rowOf, .ref z_writes, .ref z_reads, .int isImageKnown, .int madeState, .int madeSign, .ref z_matrix, .ref z_other, .int newMany, .ref a_newUps, .ref a_newDowns, .ref a_newNumber, .ref z_found, .ref z_image, .ref z_imagePlace, .int imagePower, .int imageMany, .int imageWires])), (a_upsOf, .inl (cI, 60, .inl upsOf)), (a_downsOf, .inl (cI, 60, .inl downsOf)), (a_numberOf, .inl (cJ, 60, .inr (.inl numberOf))), (a_newUps, .inl (cI, 60, .inl newUps)), (a_newDowns, .inl (cI, 60, .inl newDowns)), (a_newNumber, .inl (cJ, 60, .inr (.inl newNumber)))] H → va_D A [(a_p0, .inr (4, [.int thrown, .int modes, .int products, .ref a_upsOf, .ref a_downsOf, .ref a_numberOf, .int wayKind, .ref z_rowOf, .ref z_writes, .ref z_reads, .int isImageKnown, .int madeState, .int madeSign, .ref z_matrix, .ref z_other, .int newMany, .ref a_newUps, .ref a_newDowns, .ref a_newNumber, .ref z_found, .ref z_image, .ref z_imagePlace, .int imagePower, .int imageMany, .int imageWires])), (a_upsOf, .inl (cI, 60, .inl upsOf)), (a_downsOf, .inl (cI, 60, .inl downsOf)), (a_numberOf, .inl (cJ, 60, .inr (.inl numberOf))), (a_newUps, .inl (cI, 60, .inl newUps)), (a_newDowns, .inl (cI, 60, .inl newDowns)), (a_newNumber, .inl (cJ, 60, .inr (.inl newNumber)))] → va_S A s.heap H locs → lv_has ls 9 [(0, .ref a_p0), (1, .int x1), (2, .int x2), (3, .int x3), (4, .int x4), (5, .int x5), (6, .int x6), (7, .int x7)] → W p l e (headSpec (Cond.code y_Mo_add prog_6_method_14_code 9 (some .int) :: T0) rm_Mo_add).room s m ([.ref a_p0, .int p1, .int p2, .int p3] : List Value).toArray below meth c H locs 0 0 Q (F0 m 64 ls []) := by
    intro n
    induction n with
    | zero =>
      intro x1 x2 x3 x4 x5 x6 x7 thrown products isImageKnown newMany upsOf downsOf numberOf newUps newDowns newNumber H locs ls hf hP hD hS hl
      exact no_fuel hf
    | succ n ih =>
      intro x1 x2 x3 x4 x5 x6 x7 thrown products isImageKnown newMany upsOf downsOf numberOf newUps newDowns newNumber H locs ls hf hP hD hS hl
      rw [b_Mo_add_64] at hf
      refine lv_iload hx hb d_Mo_add_64 (lv_at hl 7 rfl) ?_
      refine lv_aload_n hx hb d_Mo_add_66 rfl (lv_at hl 0 rfl) ?_
      refine va_get (D := (dC, dI)) (ci := 4) (v := .int products) (C := "FermionMapsModel") (T := F_Mo) (N := 25) hx hb ht0 i_Mo hown hK hP 0 rfl rfl 2 (by decide) (ht0 _ m_459) (fun _ h9 => h9) rfl d_Mo_add_67 ?_
      refine lv_icmp_ge (tgt := 204) hx hb d_Mo_add_70 (by decide) (fun c_8 => ?_) (fun c_8 => ?_)
      · replace hf := if_t c_8 hf
        refine lv_iload hx hb d_Mo_add_204 (lv_at hl 6 rfl) ?_
        refine lv_if_ne (tgt := 232) hx hb d_Mo_add_206 (by decide) (fun c_9 => ?_) (fun c_9 => ?_)
        · replace hf := if_f c_9 hf
          exact B_232 x5 thrown products isImageKnown newMany upsOf downsOf numberOf newUps newDowns newNumber H locs ls hf hP hD hS (lv_sub hl [0, 5] rfl)
        · replace hf := if_t c_9 hf
          refine lv_iload hx hb d_Mo_add_209 (lv_at hl 5 rfl) ?_
          refine lv_if_eq (tgt := 229) hx hb d_Mo_add_211 (by decide) (fun c_12 => ?_) (fun c_12 => ?_)
          · replace hf := if_t c_12 hf
            exact B_229 thrown products isImageKnown newMany upsOf downsOf numberOf newUps newDowns newNumber H locs ls hf hP hD hS (lv_sub hl [0] rfl)
          · replace hf := if_f c_12 hf
            refine lv_aload_n hx hb d_Mo_add_214 rfl (lv_at hl 0 rfl) ?_
            refine lv_iload_n hx hb d_Mo_add_215 rfl (lv_at hl 1 rfl) ?_
            refine lv_iload_n hx hb d_Mo_add_216 rfl (lv_at hl 2 rfl) ?_
            refine lv_iload_n hx hb d_Mo_add_217 rfl (lv_at hl 3 rfl) ?_
            refine lv_i2l (v := x3.toInt64) hx hb d_Mo_add_218 rfl ?_
            obtain ⟨u_13, h_u_13, hf⟩ := bd hf
            refine wr_i (wr := [(a_upsOf, .inl (cI, 60, .inl upsOf)), (a_downsOf, .inl (cI, 60, .inl downsOf)), (a_numberOf, .inl (cJ, 60, .inr (.inl numberOf)))]) (wrV_run (As := [.int x1, .int x2, .long (x3.toInt64)]) (rest := []) ⟨hx, hb, hml, hown, ht0⟩ (c_Mo_put l dC dI cI cJ a_p0 a_newUps a_newDowns a_newNumber a_upsOf a_downsOf a_numberOf z_rowOf z_writes z_reads z_matrix z_other z_found z_image z_imagePlace H.size thrown modes products wayKind isImageKnown madeState madeSign newMany imagePower imageMany imageWires newUps newDowns newNumber x1 x2 (x3.toInt64) F u_13 h_u_13) (cwV 3 ht0 (gV m_551 m_553 (T0_pr (y := ⟨"FermionMapsModel", "put", "(IIJ)Z"⟩) (i := 8) rfl rfl) m_5 m_554) rfl rfl rfl (by decide +kernel) ⟨Nat.le_of_ble_eq_true rfl, Nat.le_of_ble_eq_true rfl⟩) hK hNW hP hD [0, 4, 5, 6] rfl rfl (by decide) (ci := 4) (q0 := 0) rfl rfl rfl hl.1 rfl (Nat.le_of_ble_eq_true rfl) d_Mo_add_219 ⟨Nat.zero_le _, Nat.zero_le _⟩) hP hD hS hA [0, 4, 5, 6] [1, 2, 3] rfl rfl (by decide) (by decide) (fun w1 H locs hw hP hD hS => ?_)
            obtain rfl := hw
            have hP : va_P (dC, dI) cls [(a_p0, .inr (4, [.int thrown, .int modes, .int products, .ref a_upsOf, .ref a_downsOf, .ref a_numberOf, .int wayKind, .ref z_rowOf, .ref z_writes, .ref z_reads, .int isImageKnown, .int madeState, .int madeSign, .ref z_matrix, .ref z_other, .int u_13.2.1, .ref a_newUps, .ref a_newDowns, .ref a_newNumber, .ref z_found, .ref z_image, .ref z_imagePlace, .int imagePower, .int imageMany, .int imageWires])), (a_upsOf, .inl (cI, 60, .inl upsOf)), (a_downsOf, .inl (cI, 60, .inl downsOf)), (a_numberOf, .inl (cJ, 60, .inr (.inl numberOf))), (a_newUps, .inl (cI, 60, .inl u_13.2.2.1)), (a_newDowns, .inl (cI, 60, .inl u_13.2.2.2.1)), (a_newNumber, .inl (cJ, 60, .inr (.inl u_13.2.2.2.2)))] H := hP.sub [3, 0, 1, 2, 4, 5, 6] rfl
            have hD : va_D A [(a_p0, .inr (4, [.int thrown, .int modes, .int products, .ref a_upsOf, .ref a_downsOf, .ref a_numberOf, .int wayKind, .ref z_rowOf, .ref z_writes, .ref z_reads, .int isImageKnown, .int madeState, .int madeSign, .ref z_matrix, .ref z_other, .int u_13.2.1, .ref a_newUps, .ref a_newDowns, .ref a_newNumber, .ref z_found, .ref z_image, .ref z_imagePlace, .int imagePower, .int imageMany, .int imageWires])), (a_upsOf, .inl (cI, 60, .inl upsOf)), (a_downsOf, .inl (cI, 60, .inl downsOf)), (a_numberOf, .inl (cJ, 60, .inr (.inl numberOf))), (a_newUps, .inl (cI, 60, .inl u_13.2.2.1)), (a_newDowns, .inl (cI, 60, .inl u_13.2.2.2.1)), (a_newNumber, .inl (cJ, 60, .inr (.inl u_13.2.2.2.2)))] := hD.sub [3, 0, 1, 2, 4, 5, 6] (by decide) rfl
            refine lv_if_eq (tgt := 229) hx hb d_Mo_add_222 (by decide) (fun c_14 => ?_) (fun c_14 => ?_)
            · replace hf := if_t c_14 hf
              exact B_229 thrown products isImageKnown u_13.2.1 upsOf downsOf numberOf u_13.2.2.1 u_13.2.2.2.1 u_13.2.2.2.2 H locs ls hf hP hD hS (lv_sub hl [0] rfl)
            · replace hf := if_f c_14 hf
              refine lv_iconst (v := 1) hx hb d_Mo_add_225 (by decide) ?_
              refine lv_goto (tgt := 230) hx hb d_Mo_add_226 (by decide) ?_
              exact B_230 1 thrown products isImageKnown u_13.2.1 upsOf downsOf numberOf u_13.2.2.1 u_13.2.2.2.1 u_13.2.2.2.2 H locs ls hf hP hD hS (lv_sub hl [0] rfl)
      · replace hf := if_f c_8 hf
        refine lv_sipush (v := 256) hx hb d_Mo_add_73 (by decide) ?_
        refine lv_aload_n hx hb d_Mo_add_76 rfl (lv_at hl 0 rfl) ?_
        refine va_get (D := (dC, dI)) (ci := 4) (v := .ref a_upsOf) (C := "FermionMapsModel") (T := F_Mo) (N := 25) hx hb ht0 i_Mo hown hK hP 0 rfl rfl 3 (by decide) (ht0 _ m_460) (fun _ h9 => h9) rfl d_Mo_add_77 ?_
        refine lv_iload hx hb d_Mo_add_80 (lv_at hl 7 rfl) ?_
        obtain ⟨hi_15, hf⟩ := ckI_ok hf
        refine va_iald hx hb hK hP 1 0 rfl rfl hi_15 d_Mo_add_82 ?_
        refine lv_imul hx hb d_Mo_add_83 ?_
        refine lv_aload_n hx hb d_Mo_add_84 rfl (lv_at hl 0 rfl) ?_
        refine va_get (D := (dC, dI)) (ci := 4) (v := .ref a_downsOf) (C := "FermionMapsModel") (T := F_Mo) (N := 25) hx hb ht0 i_Mo hown hK hP 0 rfl rfl 4 (by decide) (ht0 _ m_461) (fun _ h9 => h9) rfl d_Mo_add_85 ?_
        refine lv_iload hx hb d_Mo_add_88 (lv_at hl 7 rfl) ?_
        obtain ⟨hi_16, hf⟩ := ckI_ok hf
        refine va_iald hx hb hK hP 2 0 rfl rfl hi_16 d_Mo_add_90 ?_
        refine lv_iadd hx hb d_Mo_add_91 ?_
        refine lv_topi (fun x8_17 e_x8_17 => ?_)
        replace hf := nm_eq e_x8_17 hf
        refine lv_istore (lv' := [(8, .int x8_17), (0, .ref a_p0), (1, .int x1), (2, .int x2), (3, .int x3), (4, .int x4), (5, .int x5), (6, .int x6), (7, .int x7)]) hx hb d_Mo_add_92 hl (by decide) rfl (fun ls hl => ?_)
        refine lv_iload hx hb d_Mo_add_94 (lv_at hl 7 rfl) ?_
        refine lv_if_ne (tgt := 151) hx hb d_Mo_add_96 (by decide) (fun c_18 => ?_) (fun c_18 => ?_)
        · replace hf := if_f c_18 hf
          exact B_151 (b_Mo_add_64 F modes n) ih x1 x2 x3 x4 x5 x6 x7 x8_17 thrown products isImageKnown newMany upsOf downsOf numberOf newUps newDowns newNumber H locs ls hf hP hD hS (lv_sub hl [1, 2, 3, 4, 5, 6, 7, 8, 0] rfl)
        · replace hf := if_t c_18 hf
          refine lv_iload hx hb d_Mo_add_99 (lv_at hl 0 rfl) ?_
          refine lv_iload hx hb d_Mo_add_101 (lv_at hl 5 rfl) ?_
          refine lv_icmp_lt (tgt := 151) hx hb d_Mo_add_103 (by decide) (fun c_27 => ?_) (fun c_27 => ?_)
          · replace hf := if_t c_27 hf
            exact B_151 (b_Mo_add_64 F modes n) ih x1 x2 x3 x4 x5 x6 x7 x8_17 thrown products isImageKnown newMany upsOf downsOf numberOf newUps newDowns newNumber H locs ls hf hP hD hS (lv_sub hl [1, 2, 3, 4, 5, 6, 7, 8, 0] rfl)
          · replace hf := if_f c_27 hf
            refine lv_iconst (v := 1) hx hb d_Mo_add_106 (by decide) ?_
            refine lv_istore (lv' := [(6, .int 1), (8, .int x8_17), (0, .ref a_p0), (1, .int x1), (2, .int x2), (3, .int x3), (4, .int x4), (5, .int x5), (7, .int x7)]) hx hb d_Mo_add_107 hl (by decide) rfl (fun ls hl => ?_)
            refine lv_iload hx hb d_Mo_add_109 (lv_at hl 7 rfl) ?_
            refine lv_if_eq (tgt := 148) hx hb d_Mo_add_111 (by decide) (fun c_28 => ?_) (fun c_28 => ?_)
            · replace hf := if_t c_28 hf
              exact B_148 (b_Mo_add_64 F modes n) ih x1 x2 x3 x4 1 x7 x8_17 thrown products isImageKnown newMany upsOf downsOf numberOf newUps newDowns newNumber H locs ls hf hP hD hS (lv_sub hl [2, 3, 4, 5, 6, 0, 8, 1] rfl)
            · replace hf := if_f c_28 hf
              refine lv_aload_n hx hb d_Mo_add_114 rfl (lv_at hl 2 rfl) ?_
              refine lv_iload_n hx hb d_Mo_add_115 rfl (lv_at hl 3 rfl) ?_
              refine lv_iload_n hx hb d_Mo_add_116 rfl (lv_at hl 4 rfl) ?_
              refine lv_iload_n hx hb d_Mo_add_117 rfl (lv_at hl 5 rfl) ?_
              refine lv_i2l (v := x3.toInt64) hx hb d_Mo_add_118 rfl ?_
              refine lv_iload hx hb d_Mo_add_119 (lv_at hl 1 rfl) ?_
              refine lv_iload hx hb d_Mo_add_121 (lv_at hl 6 rfl) ?_
              refine lv_icmp_ne (tgt := 136) hx hb d_Mo_add_123 (by decide) (fun c_29 => ?_) (fun c_29 => ?_)
              · replace hf := if_f c_29 hf
                refine lv_lconst (v := 0) hx hb d_Mo_add_136 (by decide) ?_
                exact B_137 (b_Mo_add_64 F modes n) ih x1 x2 x3 x4 1 x7 x8_17 x1 x2 (x3.toInt64) 0 thrown products isImageKnown newMany upsOf downsOf numberOf newUps newDowns newNumber H locs ls hf hP hD hS (lv_sub hl [2, 3, 4, 5, 6, 0, 8, 1] rfl)
              · replace hf := if_t c_29 hf
                refine lv_aload_n hx hb d_Mo_add_126 rfl (lv_at hl 2 rfl) ?_
                refine va_get (D := (dC, dI)) (ci := 4) (v := .ref a_numberOf) (C := "FermionMapsModel") (T := F_Mo) (N := 25) hx hb ht0 i_Mo hown hK hP 0 rfl rfl 5 (by decide) (ht0 _ m_462) (fun _ h9 => h9) rfl d_Mo_add_127 ?_
                refine lv_iload hx hb d_Mo_add_130 (lv_at hl 8 rfl) ?_
                obtain ⟨hi_32, hf⟩ := ckI_ok hf
                refine va_lald hx hb hK hP 3 1 rfl rfl hi_32 d_Mo_add_132 ?_
                refine lv_goto (tgt := 137) hx hb d_Mo_add_133 (by decide) ?_
                exact B_137 (b_Mo_add_64 F modes n) ih x1 x2 x3 x4 1 x7 x8_17 x1 x2 (x3.toInt64) (numberOf x7.toNatClampNeg) thrown products isImageKnown newMany upsOf downsOf numberOf newUps newDowns newNumber H locs ls hf hP hD hS (lv_sub hl [2, 3, 4, 5, 6, 0, 8, 1] rfl)
  rw [f_Mo_add] at hf
  refine lv_aload_n hx hb d_Mo_add_0 rfl (lv_at hl 0 rfl) ?_
  refine lv_iconst (v := 0) hx hb d_Mo_add_1 (by decide) ?_
  refine va_put (D := (dC, dI)) (ci := 4) (v := .int 0) (ty := .int) (C := "FermionMapsModel") (T := F_Mo) (N := 25) hx hb ht0 i_Mo t_Mo t_Mo_ok n_Mo hown hK hP hD hS 0 rfl rfl 0 (by decide) (ht0 _ m_457) (fun _ h9 => h9) rfl (by decide +kernel) rfl rfl (Nat.le_of_ble_eq_true rfl) d_Mo_add_2 (fun H locs hP hD hS => ?_)
  have hP : va_P (dC, dI) cls [(a_p0, .inr (4, [.int 0, .int modes, .int products, .ref a_upsOf, .ref a_downsOf, .ref a_numberOf, .int wayKind, .ref z_rowOf, .ref z_writes, .ref z_reads, .int isImageKnown, .int madeState, .int madeSign, .ref z_matrix, .ref z_other, .int newMany, .ref a_newUps, .ref a_newDowns, .ref a_newNumber, .ref z_found, .ref z_image, .ref z_imagePlace, .int imagePower, .int imageMany, .int imageWires])), (a_upsOf, .inl (cI, 60, .inl upsOf)), (a_downsOf, .inl (cI, 60, .inl downsOf)), (a_numberOf, .inl (cJ, 60, .inr (.inl numberOf))), (a_newUps, .inl (cI, 60, .inl newUps)), (a_newDowns, .inl (cI, 60, .inl newDowns)), (a_newNumber, .inl (cJ, 60, .inr (.inl newNumber)))] H := hP
  have hD : va_D A [(a_p0, .inr (4, [.int 0, .int modes, .int products, .ref a_upsOf, .ref a_downsOf, .ref a_numberOf, .int wayKind, .ref z_rowOf, .ref z_writes, .ref z_reads, .int isImageKnown, .int madeState, .int madeSign, .ref z_matrix, .ref z_other, .int newMany, .ref a_newUps, .ref a_newDowns, .ref a_newNumber, .ref z_found, .ref z_image, .ref z_imagePlace, .int imagePower, .int imageMany, .int imageWires])), (a_upsOf, .inl (cI, 60, .inl upsOf)), (a_downsOf, .inl (cI, 60, .inl downsOf)), (a_numberOf, .inl (cJ, 60, .inr (.inl numberOf))), (a_newUps, .inl (cI, 60, .inl newUps)), (a_newDowns, .inl (cI, 60, .inl newDowns)), (a_newNumber, .inl (cJ, 60, .inr (.inl newNumber)))] := hD
  refine lv_aload_n hx hb d_Mo_add_5 rfl (lv_at hl 0 rfl) ?_
  refine lv_iload_n hx hb d_Mo_add_6 rfl (lv_at hl 1 rfl) ?_
  obtain ⟨u_1, h_u_1, hf⟩ := bd hf
  refine rd_i (rdV_run (As := [.int p1]) (rest := []) ⟨hx, hb, hml, hown, ht0⟩ (c_Mo_isState l dC dI cI cJ a_p0 a_upsOf a_downsOf a_numberOf z_rowOf z_writes z_reads z_matrix z_other a_newUps a_newDowns a_newNumber z_found z_image z_imagePlace 0 modes products wayKind isImageKnown madeState madeSign newMany imagePower imageMany imageWires p1 F u_1 h_u_1) (cwV 1 ht0 (gV m_545 m_547 (T0_pr (y := ⟨"FermionMapsModel", "isState", "(I)Z"⟩) (i := 7) rfl rfl) m_5 m_548) rfl rfl rfl (by decide +kernel) ⟨Nat.le_of_ble_eq_true rfl, Nat.le_of_ble_eq_true rfl⟩) hK hNW hP [0] rfl (ci := 4) (q0 := 0) rfl rfl rfl hl.1 rfl (Nat.le_of_ble_eq_true rfl) d_Mo_add_7 ⟨Nat.zero_le _, Nat.zero_le _⟩) ?_
  refine lv_if_eq (tgt := 39) hx hb d_Mo_add_10 (by decide) (fun c_2 => ?_) (fun c_2 => ?_)
  · replace hf := if_t c_2 hf
    refine lv_iconst (v := (-1)) hx hb d_Mo_add_39 (by decide) ?_
    have hu := Option.some.inj hf
    subst hu
    exact rw_i hQ rfl rfl hP hD hK hS hx hb hr hlocks d_Mo_add_40
  · replace hf := if_f c_2 hf
    refine lv_aload_n hx hb d_Mo_add_13 rfl (lv_at hl 0 rfl) ?_
    refine lv_iload_n hx hb d_Mo_add_14 rfl (lv_at hl 2 rfl) ?_
    obtain ⟨u_3, h_u_3, hf⟩ := bd hf
    refine rd_i (rdV_run (As := [.int p2]) (rest := []) ⟨hx, hb, hml, hown, ht0⟩ (c_Mo_isState l dC dI cI cJ a_p0 a_upsOf a_downsOf a_numberOf z_rowOf z_writes z_reads z_matrix z_other a_newUps a_newDowns a_newNumber z_found z_image z_imagePlace 0 modes products wayKind isImageKnown madeState madeSign newMany imagePower imageMany imageWires p2 F u_3 h_u_3) (cwV 1 ht0 (gV m_545 m_547 (T0_pr (y := ⟨"FermionMapsModel", "isState", "(I)Z"⟩) (i := 7) rfl rfl) m_5 m_548) rfl rfl rfl (by decide +kernel) ⟨Nat.le_of_ble_eq_true rfl, Nat.le_of_ble_eq_true rfl⟩) hK hNW hP [0] rfl (ci := 4) (q0 := 0) rfl rfl rfl hl.1 rfl (Nat.le_of_ble_eq_true rfl) d_Mo_add_15 ⟨Nat.zero_le _, Nat.zero_le _⟩) ?_
    refine lv_if_eq (tgt := 39) hx hb d_Mo_add_18 (by decide) (fun c_4 => ?_) (fun c_4 => ?_)
    · replace hf := if_t c_4 hf
      refine lv_iconst (v := (-1)) hx hb d_Mo_add_39 (by decide) ?_
      have hu := Option.some.inj hf
      subst hu
      exact rw_i hQ rfl rfl hP hD hK hS hx hb hr hlocks d_Mo_add_40
    · replace hf := if_f c_4 hf
      refine lv_iload_n hx hb d_Mo_add_21 rfl (lv_at hl 3 rfl) ?_
      refine lv_i2l (v := p3.toInt64) hx hb d_Mo_add_22 rfl ?_
      refine lv_ldc2 hx hb hown (ht0 _ m_549) d_Mo_add_23 ?_
      refine W.lcmp hx hb d_Mo_add_26 ?_
      refine lv_if_gt (tgt := 39) hx hb d_Mo_add_27 (by decide) (fun c_5 => ?_) (fun c_5 => ?_)
      · replace hf := if_t c_5 hf
        refine lv_iconst (v := (-1)) hx hb d_Mo_add_39 (by decide) ?_
        have hu := Option.some.inj hf
        subst hu
        exact rw_i hQ rfl rfl hP hD hK hS hx hb hr hlocks d_Mo_add_40
      · replace hf := if_f c_5 hf
        refine lv_iload_n hx hb d_Mo_add_30 rfl (lv_at hl 3 rfl) ?_
        refine lv_i2l (v := p3.toInt64) hx hb d_Mo_add_31 rfl ?_
        refine lv_ldc2 hx hb hown (ht0 _ m_550) d_Mo_add_32 ?_
        refine W.lcmp hx hb d_Mo_add_35 ?_
        refine lv_if_ge (tgt := 41) hx hb d_Mo_add_36 (by decide) (fun c_6 => ?_) (fun c_6 => ?_)
        · replace hf := if_t c_6 hf
          refine lv_aload_n hx hb d_Mo_add_41 rfl (lv_at hl 0 rfl) ?_
          refine lv_iconst (v := 0) hx hb d_Mo_add_42 (by decide) ?_
          refine va_put (D := (dC, dI)) (ci := 4) (v := .int 0) (ty := .int) (C := "FermionMapsModel") (T := F_Mo) (N := 25) hx hb ht0 i_Mo t_Mo t_Mo_ok n_Mo hown hK hP hD hS 0 rfl rfl 15 (by decide) (ht0 _ m_472) (fun _ h9 => h9) rfl (by decide +kernel) rfl rfl (Nat.le_of_ble_eq_true rfl) d_Mo_add_43 (fun H locs hP hD hS => ?_)
          have hP : va_P (dC, dI) cls [(a_p0, .inr (4, [.int 0, .int modes, .int products, .ref a_upsOf, .ref a_downsOf, .ref a_numberOf, .int wayKind, .ref z_rowOf, .ref z_writes, .ref z_reads, .int isImageKnown, .int madeState, .int madeSign, .ref z_matrix, .ref z_other, .int 0, .ref a_newUps, .ref a_newDowns, .ref a_newNumber, .ref z_found, .ref z_image, .ref z_imagePlace, .int imagePower, .int imageMany, .int imageWires])), (a_upsOf, .inl (cI, 60, .inl upsOf)), (a_downsOf, .inl (cI, 60, .inl downsOf)), (a_numberOf, .inl (cJ, 60, .inr (.inl numberOf))), (a_newUps, .inl (cI, 60, .inl newUps)), (a_newDowns, .inl (cI, 60, .inl newDowns)), (a_newNumber, .inl (cJ, 60, .inr (.inl newNumber)))] H := hP
          have hD : va_D A [(a_p0, .inr (4, [.int 0, .int modes, .int products, .ref a_upsOf, .ref a_downsOf, .ref a_numberOf, .int wayKind, .ref z_rowOf, .ref z_writes, .ref z_reads, .int isImageKnown, .int madeState, .int madeSign, .ref z_matrix, .ref z_other, .int 0, .ref a_newUps, .ref a_newDowns, .ref a_newNumber, .ref z_found, .ref z_image, .ref z_imagePlace, .int imagePower, .int imageMany, .int imageWires])), (a_upsOf, .inl (cI, 60, .inl upsOf)), (a_downsOf, .inl (cI, 60, .inl downsOf)), (a_numberOf, .inl (cJ, 60, .inr (.inl numberOf))), (a_newUps, .inl (cI, 60, .inl newUps)), (a_newDowns, .inl (cI, 60, .inl newDowns)), (a_newNumber, .inl (cJ, 60, .inr (.inl newNumber)))] := hD
          refine lv_sipush (v := 256) hx hb d_Mo_add_46 (by decide) ?_
          refine lv_iload_n hx hb d_Mo_add_49 rfl (lv_at hl 1 rfl) ?_
          refine lv_imul hx hb d_Mo_add_50 ?_
          refine lv_iload_n hx hb d_Mo_add_51 rfl (lv_at hl 2 rfl) ?_
          refine lv_iadd hx hb d_Mo_add_52 ?_
          refine lv_topi (fun x4_7 e_x4_7 => ?_)
          replace hf := nm_eq e_x4_7 hf
          refine lv_istore (lv' := [(4, .int x4_7), (0, .ref a_p0), (1, .int p1), (2, .int p2), (3, .int p3)]) hx hb d_Mo_add_53 hl (by decide) rfl (fun ls hl => ?_)
          refine lv_iconst (v := 1) hx hb d_Mo_add_55 (by decide) ?_
          refine lv_istore (lv' := [(5, .int 1), (4, .int x4_7), (0, .ref a_p0), (1, .int p1), (2, .int p2), (3, .int p3)]) hx hb d_Mo_add_56 hl (by decide) rfl (fun ls hl => ?_)
          refine lv_iconst (v := 0) hx hb d_Mo_add_58 (by decide) ?_
          refine lv_istore (lv' := [(6, .int 0), (5, .int 1), (4, .int x4_7), (0, .ref a_p0), (1, .int p1), (2, .int p2), (3, .int p3)]) hx hb d_Mo_add_59 hl (by decide) rfl (fun ls hl => ?_)
          refine lv_iconst (v := 0) hx hb d_Mo_add_61 (by decide) ?_
          refine lv_istore (lv' := [(7, .int 0), (6, .int 0), (5, .int 1), (4, .int x4_7), (0, .ref a_p0), (1, .int p1), (2, .int p2), (3, .int p3)]) hx hb d_Mo_add_62 hl (by decide) rfl (fun ls hl => ?_)
          exact B_64 F p1 p2 p3 x4_7 1 0 0 0 products isImageKnown 0 upsOf downsOf numberOf newUps newDowns newNumber H locs ls hf hP hD hS (lv_sub hl [4, 5, 6, 7, 3, 2, 1, 0] rfl)
        · replace hf := if_f c_6 hf
          refine lv_iconst (v := (-1)) hx hb d_Mo_add_39 (by decide) ?_
          have hu := Option.some.inj hf
          subst hu
          exact rw_i hQ rfl rfl hP hD hK hS hx hb hr hlocks d_Mo_add_40

/-! FermionMapsModel.clear()V -/
def f_Mo_clear (F : Nat) (thrown : Int32) (products : Int32) (isImageKnown : Int32) (newMany : Int32) (upsOf : Nat → Int32) (downsOf : Nat → Int32) (numberOf : Nat → Int64) (newUps : Nat → Int32) (newDowns : Nat → Int32) (newNumber : Nat → Int64) : Option (Int32 × Int32 × Int32 × Int32 × (Nat → Int32) × (Nat → Int32) × (Nat → Int64)) :=
  (f_Mo_take F products isImageKnown 0 upsOf downsOf numberOf newUps newDowns newNumber).bind fun u_1 =>
  some (0, u_1.2.1, u_1.2.2.1, 0, u_1.2.2.2.1, u_1.2.2.2.2.1, u_1.2.2.2.2.2)
abbrev rm_Mo_clear : Room := { frames := 1, cells := 0, slots := 0, locals := 21 }
set_option maxHeartbeats 4000000 in
set_option maxRecDepth 100000 in
theorem c_Mo_clear (l : Launch) (dC : Nat → ClassId) (dI : Nat → Nat → Nat) (cI cJ : ClassId) (a_p0 a_upsOf a_downsOf a_numberOf a_newUps a_newDowns a_newNumber z_rowOf z_writes z_reads z_matrix z_other z_found z_image z_imagePlace : Nat) (sz : Nat) (thrown : Int32) (modes : Int32) (products : Int32) (wayKind : Int32) (isImageKnown : Int32) (madeState : Int32) (madeSign : Int32) (newMany : Int32) (imagePower : Int32) (imageMany : Int32) (imageWires : Int32) (upsOf : Nat → Int32) (downsOf : Nat → Int32) (numberOf : Nat → Int64) (newUps : Nat → Int32) (newDowns : Nat → Int32) (newNumber : Nat → Int64) (F : Nat) (u : Int32 × Int32 × Int32 × Int32 × (Nat → Int32) × (Nat → Int32) × (Nat → Int64)) (hf : f_Mo_clear F thrown products isImageKnown newMany upsOf downsOf numberOf newUps newDowns newNumber = some u) : Met l y_Mo_clear (Cond.code y_Mo_clear prog_6_method_18_code 1 none :: T0) rm_Mo_clear (va_Pc [.ref a_p0] (Ww (dC, dI) [(a_p0, .inr (4, [.int thrown, .int modes, .int products, .ref a_upsOf, .ref a_downsOf, .ref a_numberOf, .int wayKind, .ref z_rowOf, .ref z_writes, .ref z_reads, .int isImageKnown, .int madeState, .int madeSign, .ref z_matrix, .ref z_other, .int newMany, .ref a_newUps, .ref a_newDowns, .ref a_newNumber, .ref z_found, .ref z_image, .ref z_imagePlace, .int imagePower, .int imageMany, .int imageWires])), (a_upsOf, .inl (cI, 60, .inl upsOf)), (a_downsOf, .inl (cI, 60, .inl downsOf)), (a_numberOf, .inl (cJ, 60, .inr (.inl numberOf))), (a_newUps, .inl (cI, 60, .inl newUps)), (a_newDowns, .inl (cI, 60, .inl newDowns)), (a_newNumber, .inl (cJ, 60, .inr (.inl newNumber)))] [(cI, .int), (cJ, .long)] sz)) (va_Qv (fun _ : Unit => True) (Bw (dC, dI) [(cI, .int), (cJ, .long)] (va_A [(a_p0, .inr (4, [.int thrown, .int modes, .int products, .ref a_upsOf, .ref a_downsOf, .ref a_numberOf, .int wayKind, .ref z_rowOf, .ref z_writes, .ref z_reads, .int isImageKnown, .int madeState, .int madeSign, .ref z_matrix, .ref z_other, .int newMany, .ref a_newUps, .ref a_newDowns, .ref a_newNumber, .ref z_found, .ref z_image, .ref z_imagePlace, .int imagePower, .int imageMany, .int imageWires])), (a_upsOf, .inl (cI, 60, .inl upsOf)), (a_downsOf, .inl (cI, 60, .inl downsOf)), (a_numberOf, .inl (cJ, 60, .inr (.inl numberOf))), (a_newUps, .inl (cI, 60, .inl newUps)), (a_newDowns, .inl (cI, 60, .inl newDowns)), (a_newNumber, .inl (cJ, 60, .inr (.inl newNumber)))] sz) (fun w1 => w1 = [(a_p0, .inr (4, [.int u.1, .int modes, .int u.2.1, .ref a_upsOf, .ref a_downsOf, .ref a_numberOf, .int wayKind, .ref z_rowOf, .ref z_writes, .ref z_reads, .int u.2.2.1, .int madeState, .int madeSign, .ref z_matrix, .ref z_other, .int u.2.2.2.1, .ref a_newUps, .ref a_newDowns, .ref a_newNumber, .ref z_found, .ref z_image, .ref z_imagePlace, .int imagePower, .int imageMany, .int imageWires])), (a_upsOf, .inl (cI, 60, .inl u.2.2.2.2.1)), (a_downsOf, .inl (cI, 60, .inl u.2.2.2.2.2.1)), (a_numberOf, .inl (cJ, 60, .inr (.inl u.2.2.2.2.2.2))), (a_newUps, .inl (cI, 60, .inl newUps)), (a_newDowns, .inl (cI, 60, .inl newDowns)), (a_newNumber, .inl (cJ, 60, .inr (.inl newNumber)))])) (va_A [(a_p0, .inr (4, [.int thrown, .int modes, .int products, .ref a_upsOf, .ref a_downsOf, .ref a_numberOf, .int wayKind, .ref z_rowOf, .ref z_writes, .ref z_reads, .int isImageKnown, .int madeState, .int madeSign, .ref z_matrix, .ref z_other, .int newMany, .ref a_newUps, .ref a_newDowns, .ref a_newNumber, .ref z_found, .ref z_image, .ref z_imagePlace, .int imagePower, .int imageMany, .int imageWires])), (a_upsOf, .inl (cI, 60, .inl upsOf)), (a_downsOf, .inl (cI, 60, .inl downsOf)), (a_numberOf, .inl (cJ, 60, .inr (.inl numberOf))), (a_newUps, .inl (cI, 60, .inl newUps)), (a_newDowns, .inl (cI, 60, .inl newDowns)), (a_newNumber, .inl (cJ, 60, .inr (.inl newNumber)))] sz)) 0 0 (va_A [(a_p0, .inr (4, [.int thrown, .int modes, .int products, .ref a_upsOf, .ref a_downsOf, .ref a_numberOf, .int wayKind, .ref z_rowOf, .ref z_writes, .ref z_reads, .int isImageKnown, .int madeState, .int madeSign, .ref z_matrix, .ref z_other, .int newMany, .ref a_newUps, .ref a_newDowns, .ref a_newNumber, .ref z_found, .ref z_image, .ref z_imagePlace, .int imagePower, .int imageMany, .int imageWires])), (a_upsOf, .inl (cI, 60, .inl upsOf)), (a_downsOf, .inl (cI, 60, .inl downsOf)), (a_numberOf, .inl (cJ, 60, .inr (.inl numberOf))), (a_newUps, .inl (cI, 60, .inl newUps)), (a_newDowns, .inl (cI, 60, .inl newDowns)), (a_newNumber, .inl (cJ, 60, .inr (.inl newNumber)))] sz) := by
  refine Met.ofW (cc := prog_6_method_18_code) (maxL := 1) (ret := none) (by decide) rfl ?_
  intro p e s m args below meth c s₁ B hml hv
  obtain ⟨rfl, hsz, hP, hK, hD0, hNW⟩ := hv
  have hx := B.exec
  have hb := B.bytes
  have hr := B.returns
  have hts := atoms_spec (ws := Cond.code y_Mo_clear prog_6_method_18_code 1 none :: T0) B.pre
  have ht0 : ∀ w ∈ T0, w.before ([.ref a_p0] : List Value).toArray s = true := fun w h => hts w (List.mem_cons_of_mem _ h)
  have hown : s.vm.findClass "FermionMapsModel" = some m.cls := findClass_of_methodNamed B.named
  have hlocks := B.notSynchronized
  subst hsz
  have hD := hD0.self (sz := s.heap.size)
  generalize hAe : va_A [(a_p0, .inr (4, [.int thrown, .int modes, .int products, .ref a_upsOf, .ref a_downsOf, .ref a_numberOf, .int wayKind, .ref z_rowOf, .ref z_writes, .ref z_reads, .int isImageKnown, .int madeState, .int madeSign, .ref z_matrix, .ref z_other, .int newMany, .ref a_newUps, .ref a_newDowns, .ref a_newNumber, .ref z_found, .ref z_image, .ref z_imagePlace, .int imagePower, .int imageMany, .int imageWires])), (a_upsOf, .inl (cI, 60, .inl upsOf)), (a_downsOf, .inl (cI, 60, .inl downsOf)), (a_numberOf, .inl (cJ, 60, .inr (.inl numberOf))), (a_newUps, .inl (cI, 60, .inl newUps)), (a_newDowns, .inl (cI, 60, .inl newDowns)), (a_newNumber, .inl (cJ, 60, .inr (.inl newNumber)))] s.heap.size = A at hD ⊢
  have hA : ∀ q : Nat, s.heap.size ≤ q → A q := fun q h => by rw [← hAe]; exact Or.inr h
  have hS : va_S A s.heap s.heap [] := va_S.rf
  have hl := lv_entry ([.ref a_p0]) (n := 1) (Nat.le_of_ble_eq_true rfl)
  rw [lg_entry_eq]
  generalize (lg_sl ([.ref a_p0]) ++ List.replicate (1 - (lg_sl ([.ref a_p0])).length) Slot.unset).toArray = ls at hl ⊢
  have hl : lv_has ls 1 [(0, .ref a_p0)] := hl
  refine W.nameQ (fun Q hQ => ?_)
  rw [f_Mo_clear] at hf
  refine lv_aload_n hx hb d_Mo_clear_0 rfl (lv_at hl 0 rfl) ?_
  refine lv_iconst (v := 0) hx hb d_Mo_clear_1 (by decide) ?_
  refine va_put (D := (dC, dI)) (ci := 4) (v := .int 0) (ty := .int) (C := "FermionMapsModel") (T := F_Mo) (N := 25) hx hb ht0 i_Mo t_Mo t_Mo_ok n_Mo hown hK hP hD hS 0 rfl rfl 0 (by decide) (ht0 _ m_457) (fun _ h9 => h9) rfl (by decide +kernel) rfl rfl (Nat.le_of_ble_eq_true rfl) d_Mo_clear_2 (fun H locs hP hD hS => ?_)
  have hP : va_P (dC, dI) cls [(a_p0, .inr (4, [.int 0, .int modes, .int products, .ref a_upsOf, .ref a_downsOf, .ref a_numberOf, .int wayKind, .ref z_rowOf, .ref z_writes, .ref z_reads, .int isImageKnown, .int madeState, .int madeSign, .ref z_matrix, .ref z_other, .int newMany, .ref a_newUps, .ref a_newDowns, .ref a_newNumber, .ref z_found, .ref z_image, .ref z_imagePlace, .int imagePower, .int imageMany, .int imageWires])), (a_upsOf, .inl (cI, 60, .inl upsOf)), (a_downsOf, .inl (cI, 60, .inl downsOf)), (a_numberOf, .inl (cJ, 60, .inr (.inl numberOf))), (a_newUps, .inl (cI, 60, .inl newUps)), (a_newDowns, .inl (cI, 60, .inl newDowns)), (a_newNumber, .inl (cJ, 60, .inr (.inl newNumber)))] H := hP
  have hD : va_D A [(a_p0, .inr (4, [.int 0, .int modes, .int products, .ref a_upsOf, .ref a_downsOf, .ref a_numberOf, .int wayKind, .ref z_rowOf, .ref z_writes, .ref z_reads, .int isImageKnown, .int madeState, .int madeSign, .ref z_matrix, .ref z_other, .int newMany, .ref a_newUps, .ref a_newDowns, .ref a_newNumber, .ref z_found, .ref z_image, .ref z_imagePlace, .int imagePower, .int imageMany, .int imageWires])), (a_upsOf, .inl (cI, 60, .inl upsOf)), (a_downsOf, .inl (cI, 60, .inl downsOf)), (a_numberOf, .inl (cJ, 60, .inr (.inl numberOf))), (a_newUps, .inl (cI, 60, .inl newUps)), (a_newDowns, .inl (cI, 60, .inl newDowns)), (a_newNumber, .inl (cJ, 60, .inr (.inl newNumber)))] := hD
  refine lv_aload_n hx hb d_Mo_clear_5 rfl (lv_at hl 0 rfl) ?_
  refine lv_iconst (v := 0) hx hb d_Mo_clear_6 (by decide) ?_
  refine va_put (D := (dC, dI)) (ci := 4) (v := .int 0) (ty := .int) (C := "FermionMapsModel") (T := F_Mo) (N := 25) hx hb ht0 i_Mo t_Mo t_Mo_ok n_Mo hown hK hP hD hS 0 rfl rfl 15 (by decide) (ht0 _ m_472) (fun _ h9 => h9) rfl (by decide +kernel) rfl rfl (Nat.le_of_ble_eq_true rfl) d_Mo_clear_7 (fun H locs hP hD hS => ?_)
  have hP : va_P (dC, dI) cls [(a_p0, .inr (4, [.int 0, .int modes, .int products, .ref a_upsOf, .ref a_downsOf, .ref a_numberOf, .int wayKind, .ref z_rowOf, .ref z_writes, .ref z_reads, .int isImageKnown, .int madeState, .int madeSign, .ref z_matrix, .ref z_other, .int 0, .ref a_newUps, .ref a_newDowns, .ref a_newNumber, .ref z_found, .ref z_image, .ref z_imagePlace, .int imagePower, .int imageMany, .int imageWires])), (a_upsOf, .inl (cI, 60, .inl upsOf)), (a_downsOf, .inl (cI, 60, .inl downsOf)), (a_numberOf, .inl (cJ, 60, .inr (.inl numberOf))), (a_newUps, .inl (cI, 60, .inl newUps)), (a_newDowns, .inl (cI, 60, .inl newDowns)), (a_newNumber, .inl (cJ, 60, .inr (.inl newNumber)))] H := hP
  have hD : va_D A [(a_p0, .inr (4, [.int 0, .int modes, .int products, .ref a_upsOf, .ref a_downsOf, .ref a_numberOf, .int wayKind, .ref z_rowOf, .ref z_writes, .ref z_reads, .int isImageKnown, .int madeState, .int madeSign, .ref z_matrix, .ref z_other, .int 0, .ref a_newUps, .ref a_newDowns, .ref a_newNumber, .ref z_found, .ref z_image, .ref z_imagePlace, .int imagePower, .int imageMany, .int imageWires])), (a_upsOf, .inl (cI, 60, .inl upsOf)), (a_downsOf, .inl (cI, 60, .inl downsOf)), (a_numberOf, .inl (cJ, 60, .inr (.inl numberOf))), (a_newUps, .inl (cI, 60, .inl newUps)), (a_newDowns, .inl (cI, 60, .inl newDowns)), (a_newNumber, .inl (cJ, 60, .inr (.inl newNumber)))] := hD
  refine lv_aload_n hx hb d_Mo_clear_10 rfl (lv_at hl 0 rfl) ?_
  obtain ⟨u_1, h_u_1, hf⟩ := bd hf
  refine wr_i (wr := []) (wrV_run (As := []) (rest := []) ⟨hx, hb, hml, hown, ht0⟩ (c_Mo_take l dC dI cI cJ a_p0 a_upsOf a_downsOf a_numberOf a_newUps a_newDowns a_newNumber z_rowOf z_writes z_reads z_matrix z_other z_found z_image z_imagePlace H.size 0 modes products wayKind isImageKnown madeState madeSign 0 imagePower imageMany imageWires upsOf downsOf numberOf newUps newDowns newNumber F u_1 h_u_1) (cwV 0 ht0 (gV m_555 m_557 (T0_pr (y := ⟨"FermionMapsModel", "take", "()I"⟩) (i := 9) rfl rfl) m_5 m_558) rfl rfl rfl (by decide +kernel) ⟨Nat.le_of_ble_eq_true rfl, Nat.le_of_ble_eq_true rfl⟩) hK hNW hP hD [0, 1, 2, 3, 4, 5, 6] rfl rfl (by decide) (ci := 4) (q0 := 0) rfl rfl rfl hl.1 rfl (Nat.le_of_ble_eq_true rfl) d_Mo_clear_11 ⟨Nat.zero_le _, Nat.zero_le _⟩) hP hD hS hA [0, 1, 2, 3, 4, 5, 6] [] rfl rfl (by decide) (by decide) (fun w1 H locs hw hP hD hS => ?_)
  obtain rfl := hw
  have hP : va_P (dC, dI) cls [(a_p0, .inr (4, [.int 0, .int modes, .int u_1.2.1, .ref a_upsOf, .ref a_downsOf, .ref a_numberOf, .int wayKind, .ref z_rowOf, .ref z_writes, .ref z_reads, .int u_1.2.2.1, .int madeState, .int madeSign, .ref z_matrix, .ref z_other, .int 0, .ref a_newUps, .ref a_newDowns, .ref a_newNumber, .ref z_found, .ref z_image, .ref z_imagePlace, .int imagePower, .int imageMany, .int imageWires])), (a_upsOf, .inl (cI, 60, .inl u_1.2.2.2.1)), (a_downsOf, .inl (cI, 60, .inl u_1.2.2.2.2.1)), (a_numberOf, .inl (cJ, 60, .inr (.inl u_1.2.2.2.2.2))), (a_newUps, .inl (cI, 60, .inl newUps)), (a_newDowns, .inl (cI, 60, .inl newDowns)), (a_newNumber, .inl (cJ, 60, .inr (.inl newNumber)))] H := hP.sub [0, 1, 2, 3, 4, 5, 6] rfl
  have hD : va_D A [(a_p0, .inr (4, [.int 0, .int modes, .int u_1.2.1, .ref a_upsOf, .ref a_downsOf, .ref a_numberOf, .int wayKind, .ref z_rowOf, .ref z_writes, .ref z_reads, .int u_1.2.2.1, .int madeState, .int madeSign, .ref z_matrix, .ref z_other, .int 0, .ref a_newUps, .ref a_newDowns, .ref a_newNumber, .ref z_found, .ref z_image, .ref z_imagePlace, .int imagePower, .int imageMany, .int imageWires])), (a_upsOf, .inl (cI, 60, .inl u_1.2.2.2.1)), (a_downsOf, .inl (cI, 60, .inl u_1.2.2.2.2.1)), (a_numberOf, .inl (cJ, 60, .inr (.inl u_1.2.2.2.2.2))), (a_newUps, .inl (cI, 60, .inl newUps)), (a_newDowns, .inl (cI, 60, .inl newDowns)), (a_newNumber, .inl (cJ, 60, .inr (.inl newNumber)))] := hD.sub [0, 1, 2, 3, 4, 5, 6] (by decide) rfl
  refine lv_pop hx hb d_Mo_clear_14 rfl ?_
  have hu := Option.some.inj hf
  subst hu
  exact rw_v hQ rfl hP hD hK hS hx hb hr hlocks d_Mo_clear_15

/-! FermionMapsModel.product(II)I -/
def b_Mo_product_26 (F : Nat) (products : Int32) (upsOf : Nat → Int32) (downsOf : Nat → Int32) (numberOf : Nat → Int64) (thrown : Int32) : Option (Int32 × Int32) :=
  (f_Mo_raise F thrown).bind fun u_2 =>
  some (u_2.1, u_2.2)
def f_Mo_product (F : Nat) (thrown : Int32) (products : Int32) (upsOf : Nat → Int32) (downsOf : Nat → Int32) (numberOf : Nat → Int64) (p1 : Int32) (p2 : Int32) : Option (Int32 × Int32) :=
  if p1 < 0 then
    b_Mo_product_26 F products upsOf downsOf numberOf 0
  else
    if products ≤ p1 then
      b_Mo_product_26 F products upsOf downsOf numberOf 0
    else
      if p2 < 0 then
        b_Mo_product_26 F products upsOf downsOf numberOf 0
      else
        if p2 ≤ 2 then
          if p2 = 0 then
            ckI p1 60 <|
            some ((upsOf p1.toNatClampNeg), 0)
          else
            if p2 = 1 then
              ckI p1 60 <|
              some ((downsOf p1.toNatClampNeg), 0)
            else
              ckI p1 60 <|
              some (((numberOf p1.toNatClampNeg).toInt32), 0)
        else
          b_Mo_product_26 F products upsOf downsOf numberOf 0
abbrev rm_Mo_product : Room := { frames := 1, cells := 0, slots := 0, locals := 20 }
set_option maxHeartbeats 4000000 in
set_option maxRecDepth 100000 in
theorem c_Mo_product (l : Launch) (dC : Nat → ClassId) (dI : Nat → Nat → Nat) (cI cJ : ClassId) (a_p0 a_upsOf a_downsOf a_numberOf z_rowOf z_writes z_reads z_matrix z_other z_newUps z_newDowns z_newNumber z_found z_image z_imagePlace : Nat) (sz : Nat) (thrown : Int32) (modes : Int32) (products : Int32) (wayKind : Int32) (isImageKnown : Int32) (madeState : Int32) (madeSign : Int32) (newMany : Int32) (imagePower : Int32) (imageMany : Int32) (imageWires : Int32) (upsOf : Nat → Int32) (downsOf : Nat → Int32) (numberOf : Nat → Int64) (p1 : Int32) (p2 : Int32) (F : Nat) (u : Int32 × Int32) (hf : f_Mo_product F thrown products upsOf downsOf numberOf p1 p2 = some u) : Met l y_Mo_product (Cond.code y_Mo_product prog_6_method_19_code 3 (some .int) :: T0) rm_Mo_product (va_Pc [.ref a_p0, .int p1, .int p2] (Ww (dC, dI) [(a_p0, .inr (4, [.int thrown, .int modes, .int products, .ref a_upsOf, .ref a_downsOf, .ref a_numberOf, .int wayKind, .ref z_rowOf, .ref z_writes, .ref z_reads, .int isImageKnown, .int madeState, .int madeSign, .ref z_matrix, .ref z_other, .int newMany, .ref z_newUps, .ref z_newDowns, .ref z_newNumber, .ref z_found, .ref z_image, .ref z_imagePlace, .int imagePower, .int imageMany, .int imageWires])), (a_upsOf, .inl (cI, 60, .inl upsOf)), (a_downsOf, .inl (cI, 60, .inl downsOf)), (a_numberOf, .inl (cJ, 60, .inr (.inl numberOf)))] [(cI, .int), (cJ, .long)] sz)) (va_Qi (fun r (_ : Unit) => r = u.1) (Bw (dC, dI) [(cI, .int), (cJ, .long)] (va_A [(a_p0, .inr (4, [.int thrown, .int modes, .int products, .ref a_upsOf, .ref a_downsOf, .ref a_numberOf, .int wayKind, .ref z_rowOf, .ref z_writes, .ref z_reads, .int isImageKnown, .int madeState, .int madeSign, .ref z_matrix, .ref z_other, .int newMany, .ref z_newUps, .ref z_newDowns, .ref z_newNumber, .ref z_found, .ref z_image, .ref z_imagePlace, .int imagePower, .int imageMany, .int imageWires])), (a_upsOf, .inl (cI, 60, .inl upsOf)), (a_downsOf, .inl (cI, 60, .inl downsOf)), (a_numberOf, .inl (cJ, 60, .inr (.inl numberOf)))] sz) (fun w1 => w1 = [(a_p0, .inr (4, [.int u.2, .int modes, .int products, .ref a_upsOf, .ref a_downsOf, .ref a_numberOf, .int wayKind, .ref z_rowOf, .ref z_writes, .ref z_reads, .int isImageKnown, .int madeState, .int madeSign, .ref z_matrix, .ref z_other, .int newMany, .ref z_newUps, .ref z_newDowns, .ref z_newNumber, .ref z_found, .ref z_image, .ref z_imagePlace, .int imagePower, .int imageMany, .int imageWires])), (a_upsOf, .inl (cI, 60, .inl upsOf)), (a_downsOf, .inl (cI, 60, .inl downsOf)), (a_numberOf, .inl (cJ, 60, .inr (.inl numberOf)))])) (va_A [(a_p0, .inr (4, [.int thrown, .int modes, .int products, .ref a_upsOf, .ref a_downsOf, .ref a_numberOf, .int wayKind, .ref z_rowOf, .ref z_writes, .ref z_reads, .int isImageKnown, .int madeState, .int madeSign, .ref z_matrix, .ref z_other, .int newMany, .ref z_newUps, .ref z_newDowns, .ref z_newNumber, .ref z_found, .ref z_image, .ref z_imagePlace, .int imagePower, .int imageMany, .int imageWires])), (a_upsOf, .inl (cI, 60, .inl upsOf)), (a_downsOf, .inl (cI, 60, .inl downsOf)), (a_numberOf, .inl (cJ, 60, .inr (.inl numberOf)))] sz)) 0 0 (va_A [(a_p0, .inr (4, [.int thrown, .int modes, .int products, .ref a_upsOf, .ref a_downsOf, .ref a_numberOf, .int wayKind, .ref z_rowOf, .ref z_writes, .ref z_reads, .int isImageKnown, .int madeState, .int madeSign, .ref z_matrix, .ref z_other, .int newMany, .ref z_newUps, .ref z_newDowns, .ref z_newNumber, .ref z_found, .ref z_image, .ref z_imagePlace, .int imagePower, .int imageMany, .int imageWires])), (a_upsOf, .inl (cI, 60, .inl upsOf)), (a_downsOf, .inl (cI, 60, .inl downsOf)), (a_numberOf, .inl (cJ, 60, .inr (.inl numberOf)))] sz) := by
  refine Met.ofW (cc := prog_6_method_19_code) (maxL := 3) (ret := (some .int)) (by decide) rfl ?_
  intro p e s m args below meth c s₁ B hml hv
  obtain ⟨rfl, hsz, hP, hK, hD0, hNW⟩ := hv
  have hx := B.exec
  have hb := B.bytes
  have hr := B.returns
  have hts := atoms_spec (ws := Cond.code y_Mo_product prog_6_method_19_code 3 (some .int) :: T0) B.pre
  have ht0 : ∀ w ∈ T0, w.before ([.ref a_p0, .int p1, .int p2] : List Value).toArray s = true := fun w h => hts w (List.mem_cons_of_mem _ h)
  have hown : s.vm.findClass "FermionMapsModel" = some m.cls := findClass_of_methodNamed B.named
  have hlocks := B.notSynchronized
  subst hsz
  have hD := hD0.self (sz := s.heap.size)
  generalize hAe : va_A [(a_p0, .inr (4, [.int thrown, .int modes, .int products, .ref a_upsOf, .ref a_downsOf, .ref a_numberOf, .int wayKind, .ref z_rowOf, .ref z_writes, .ref z_reads, .int isImageKnown, .int madeState, .int madeSign, .ref z_matrix, .ref z_other, .int newMany, .ref z_newUps, .ref z_newDowns, .ref z_newNumber, .ref z_found, .ref z_image, .ref z_imagePlace, .int imagePower, .int imageMany, .int imageWires])), (a_upsOf, .inl (cI, 60, .inl upsOf)), (a_downsOf, .inl (cI, 60, .inl downsOf)), (a_numberOf, .inl (cJ, 60, .inr (.inl numberOf)))] s.heap.size = A at hD ⊢
  have hA : ∀ q : Nat, s.heap.size ≤ q → A q := fun q h => by rw [← hAe]; exact Or.inr h
  have hS : va_S A s.heap s.heap [] := va_S.rf
  have hl := lv_entry ([.ref a_p0, .int p1, .int p2]) (n := 3) (Nat.le_of_ble_eq_true rfl)
  rw [lg_entry_eq]
  generalize (lg_sl ([.ref a_p0, .int p1, .int p2]) ++ List.replicate (3 - (lg_sl ([.ref a_p0, .int p1, .int p2])).length) Slot.unset).toArray = ls at hl ⊢
  have hl : lv_has ls 3 [(0, .ref a_p0), (1, .int p1), (2, .int p2)] := hl
  refine W.nameQ (fun Q hQ => ?_)
  have B_26 : ∀ (thrown : Int32) (H : Heap) (locs : List Loc) (ls : Array Slot), b_Mo_product_26 F products upsOf downsOf numberOf thrown = some u → va_P (dC, dI) cls [(a_p0, .inr (4, [.int thrown, .int modes, .int products, .ref a_upsOf, .ref a_downsOf, .ref a_numberOf, .int wayKind, .ref z_rowOf, .ref z_writes, .ref z_reads, .int isImageKnown, .int madeState, .int madeSign, .ref z_matrix, .ref z_other, .int newMany, .ref z_newUps, .ref z_newDowns, .ref z_newNumber, .ref z_found, .ref z_image, .ref z_imagePlace, .int imagePower, .int imageMany, .int imageWires])), (a_upsOf, .inl (cI, 60, .inl upsOf)), (a_downsOf, .inl (cI, 60, .inl downsOf)), (a_numberOf, .inl (cJ, 60, .inr (.inl numberOf)))] H → va_D A [(a_p0, .inr (4, [.int thrown, .int modes, .int products, .ref a_upsOf, .ref a_downsOf, .ref a_numberOf, .int wayKind, .ref z_rowOf, .ref z_writes, .ref z_reads, .int isImageKnown, .int madeState, .int madeSign, .ref z_matrix, .ref z_other, .int newMany, .ref z_newUps, .ref z_newDowns, .ref z_newNumber, .ref z_found, .ref z_image, .ref z_imagePlace, .int imagePower, .int imageMany, .int imageWires])), (a_upsOf, .inl (cI, 60, .inl upsOf)), (a_downsOf, .inl (cI, 60, .inl downsOf)), (a_numberOf, .inl (cJ, 60, .inr (.inl numberOf)))] → va_S A s.heap H locs → lv_has ls 3 [(0, .ref a_p0)] → W p l e (headSpec (Cond.code y_Mo_product prog_6_method_19_code 3 (some .int) :: T0) rm_Mo_product).room s m ([.ref a_p0, .int p1, .int p2] : List Value).toArray below meth c H locs 0 0 Q (F0 m 26 ls []) := by
    intro thrown H locs ls hf hP hD hS hl
    rw [b_Mo_product_26] at hf
    refine lv_aload_n hx hb d_Mo_product_26 rfl (lv_at hl 0 rfl) ?_
    obtain ⟨u_2, h_u_2, hf⟩ := bd hf
    refine wr_i (wr := [(a_upsOf, .inl (cI, 60, .inl upsOf)), (a_downsOf, .inl (cI, 60, .inl downsOf)), (a_numberOf, .inl (cJ, 60, .inr (.inl numberOf)))]) (wrV_run (As := []) (rest := []) ⟨hx, hb, hml, hown, ht0⟩ (c_Mo_raise l dC dI cI cJ a_p0 a_upsOf a_downsOf a_numberOf z_rowOf z_writes z_reads z_matrix z_other z_newUps z_newDowns z_newNumber z_found z_image z_imagePlace H.size thrown modes products wayKind isImageKnown madeState madeSign newMany imagePower imageMany imageWires F u_2 h_u_2) (cwV 0 ht0 (gV m_591 m_593 (T0_pr (y := ⟨"FermionMapsModel", "raise", "()I"⟩) (i := 15) rfl rfl) m_5 m_594) rfl rfl rfl (by decide +kernel) ⟨Nat.le_of_ble_eq_true rfl, Nat.le_of_ble_eq_true rfl⟩) hK hNW hP hD [0] rfl rfl (by decide) (ci := 4) (q0 := 0) rfl rfl rfl hl.1 rfl (Nat.le_of_ble_eq_true rfl) d_Mo_product_27 ⟨Nat.zero_le _, Nat.zero_le _⟩) hP hD hS hA [0] [1, 2, 3] rfl rfl (by decide) (by decide) (fun w1 H locs hw hP hD hS => ?_)
    obtain rfl := hw
    have hP : va_P (dC, dI) cls [(a_p0, .inr (4, [.int u_2.2, .int modes, .int products, .ref a_upsOf, .ref a_downsOf, .ref a_numberOf, .int wayKind, .ref z_rowOf, .ref z_writes, .ref z_reads, .int isImageKnown, .int madeState, .int madeSign, .ref z_matrix, .ref z_other, .int newMany, .ref z_newUps, .ref z_newDowns, .ref z_newNumber, .ref z_found, .ref z_image, .ref z_imagePlace, .int imagePower, .int imageMany, .int imageWires])), (a_upsOf, .inl (cI, 60, .inl upsOf)), (a_downsOf, .inl (cI, 60, .inl downsOf)), (a_numberOf, .inl (cJ, 60, .inr (.inl numberOf)))] H := hP.sub [3, 0, 1, 2] rfl
    have hD : va_D A [(a_p0, .inr (4, [.int u_2.2, .int modes, .int products, .ref a_upsOf, .ref a_downsOf, .ref a_numberOf, .int wayKind, .ref z_rowOf, .ref z_writes, .ref z_reads, .int isImageKnown, .int madeState, .int madeSign, .ref z_matrix, .ref z_other, .int newMany, .ref z_newUps, .ref z_newDowns, .ref z_newNumber, .ref z_found, .ref z_image, .ref z_imagePlace, .int imagePower, .int imageMany, .int imageWires])), (a_upsOf, .inl (cI, 60, .inl upsOf)), (a_downsOf, .inl (cI, 60, .inl downsOf)), (a_numberOf, .inl (cJ, 60, .inr (.inl numberOf)))] := hD.sub [3, 0, 1, 2] (by decide) rfl
    have hu := Option.some.inj hf
    subst hu
    exact rw_i hQ rfl rfl hP hD hK hS hx hb hr hlocks d_Mo_product_30
  rw [f_Mo_product] at hf
  refine lv_aload_n hx hb d_Mo_product_0 rfl (lv_at hl 0 rfl) ?_
  refine lv_iconst (v := 0) hx hb d_Mo_product_1 (by decide) ?_
  refine va_put (D := (dC, dI)) (ci := 4) (v := .int 0) (ty := .int) (C := "FermionMapsModel") (T := F_Mo) (N := 25) hx hb ht0 i_Mo t_Mo t_Mo_ok n_Mo hown hK hP hD hS 0 rfl rfl 0 (by decide) (ht0 _ m_457) (fun _ h9 => h9) rfl (by decide +kernel) rfl rfl (Nat.le_of_ble_eq_true rfl) d_Mo_product_2 (fun H locs hP hD hS => ?_)
  have hP : va_P (dC, dI) cls [(a_p0, .inr (4, [.int 0, .int modes, .int products, .ref a_upsOf, .ref a_downsOf, .ref a_numberOf, .int wayKind, .ref z_rowOf, .ref z_writes, .ref z_reads, .int isImageKnown, .int madeState, .int madeSign, .ref z_matrix, .ref z_other, .int newMany, .ref z_newUps, .ref z_newDowns, .ref z_newNumber, .ref z_found, .ref z_image, .ref z_imagePlace, .int imagePower, .int imageMany, .int imageWires])), (a_upsOf, .inl (cI, 60, .inl upsOf)), (a_downsOf, .inl (cI, 60, .inl downsOf)), (a_numberOf, .inl (cJ, 60, .inr (.inl numberOf)))] H := hP
  have hD : va_D A [(a_p0, .inr (4, [.int 0, .int modes, .int products, .ref a_upsOf, .ref a_downsOf, .ref a_numberOf, .int wayKind, .ref z_rowOf, .ref z_writes, .ref z_reads, .int isImageKnown, .int madeState, .int madeSign, .ref z_matrix, .ref z_other, .int newMany, .ref z_newUps, .ref z_newDowns, .ref z_newNumber, .ref z_found, .ref z_image, .ref z_imagePlace, .int imagePower, .int imageMany, .int imageWires])), (a_upsOf, .inl (cI, 60, .inl upsOf)), (a_downsOf, .inl (cI, 60, .inl downsOf)), (a_numberOf, .inl (cJ, 60, .inr (.inl numberOf)))] := hD
  refine lv_iload_n hx hb d_Mo_product_5 rfl (lv_at hl 1 rfl) ?_
  refine lv_if_lt (tgt := 26) hx hb d_Mo_product_6 (by decide) (fun c_1 => ?_) (fun c_1 => ?_)
  · replace hf := if_t c_1 hf
    exact B_26 0 H locs ls hf hP hD hS (lv_sub hl [0] rfl)
  · replace hf := if_f c_1 hf
    refine lv_iload_n hx hb d_Mo_product_9 rfl (lv_at hl 1 rfl) ?_
    refine lv_aload_n hx hb d_Mo_product_10 rfl (lv_at hl 0 rfl) ?_
    refine va_get (D := (dC, dI)) (ci := 4) (v := .int products) (C := "FermionMapsModel") (T := F_Mo) (N := 25) hx hb ht0 i_Mo hown hK hP 0 rfl rfl 2 (by decide) (ht0 _ m_459) (fun _ h9 => h9) rfl d_Mo_product_11 ?_
    refine lv_icmp_ge (tgt := 26) hx hb d_Mo_product_14 (by decide) (fun c_3 => ?_) (fun c_3 => ?_)
    · replace hf := if_t c_3 hf
      exact B_26 0 H locs ls hf hP hD hS (lv_sub hl [0] rfl)
    · replace hf := if_f c_3 hf
      refine lv_iload_n hx hb d_Mo_product_17 rfl (lv_at hl 2 rfl) ?_
      refine lv_if_lt (tgt := 26) hx hb d_Mo_product_18 (by decide) (fun c_4 => ?_) (fun c_4 => ?_)
      · replace hf := if_t c_4 hf
        exact B_26 0 H locs ls hf hP hD hS (lv_sub hl [0] rfl)
      · replace hf := if_f c_4 hf
        refine lv_iload_n hx hb d_Mo_product_21 rfl (lv_at hl 2 rfl) ?_
        refine lv_iconst (v := 2) hx hb d_Mo_product_22 (by decide) ?_
        refine lv_icmp_le (tgt := 31) hx hb d_Mo_product_23 (by decide) (fun c_5 => ?_) (fun c_5 => ?_)
        · replace hf := if_t c_5 hf
          refine lv_iload_n hx hb d_Mo_product_31 rfl (lv_at hl 2 rfl) ?_
          refine lv_if_ne (tgt := 44) hx hb d_Mo_product_32 (by decide) (fun c_6 => ?_) (fun c_6 => ?_)
          · replace hf := if_f c_6 hf
            refine lv_iload_n hx hb d_Mo_product_44 rfl (lv_at hl 2 rfl) ?_
            refine lv_iconst (v := 1) hx hb d_Mo_product_45 (by decide) ?_
            refine lv_icmp_ne (tgt := 58) hx hb d_Mo_product_46 (by decide) (fun c_7 => ?_) (fun c_7 => ?_)
            · replace hf := if_f c_7 hf
              refine lv_aload_n hx hb d_Mo_product_58 rfl (lv_at hl 0 rfl) ?_
              refine va_get (D := (dC, dI)) (ci := 4) (v := .ref a_numberOf) (C := "FermionMapsModel") (T := F_Mo) (N := 25) hx hb ht0 i_Mo hown hK hP 0 rfl rfl 5 (by decide) (ht0 _ m_462) (fun _ h9 => h9) rfl d_Mo_product_59 ?_
              refine lv_iload_n hx hb d_Mo_product_62 rfl (lv_at hl 1 rfl) ?_
              obtain ⟨hi_8, hf⟩ := ckI_ok hf
              refine va_lald hx hb hK hP 3 1 rfl rfl hi_8 d_Mo_product_63 ?_
              refine lv_l2i (v := (numberOf p1.toNatClampNeg).toInt32) hx hb d_Mo_product_64 rfl ?_
              have hu := Option.some.inj hf
              subst hu
              exact rw_i hQ rfl rfl hP hD hK hS hx hb hr hlocks d_Mo_product_65
            · replace hf := if_t c_7 hf
              refine lv_aload_n hx hb d_Mo_product_49 rfl (lv_at hl 0 rfl) ?_
              refine va_get (D := (dC, dI)) (ci := 4) (v := .ref a_downsOf) (C := "FermionMapsModel") (T := F_Mo) (N := 25) hx hb ht0 i_Mo hown hK hP 0 rfl rfl 4 (by decide) (ht0 _ m_461) (fun _ h9 => h9) rfl d_Mo_product_50 ?_
              refine lv_iload_n hx hb d_Mo_product_53 rfl (lv_at hl 1 rfl) ?_
              obtain ⟨hi_9, hf⟩ := ckI_ok hf
              refine va_iald hx hb hK hP 2 0 rfl rfl hi_9 d_Mo_product_54 ?_
              refine lv_goto (tgt := 65) hx hb d_Mo_product_55 (by decide) ?_
              have hu := Option.some.inj hf
              subst hu
              exact rw_i hQ rfl rfl hP hD hK hS hx hb hr hlocks d_Mo_product_65
          · replace hf := if_t c_6 hf
            refine lv_aload_n hx hb d_Mo_product_35 rfl (lv_at hl 0 rfl) ?_
            refine va_get (D := (dC, dI)) (ci := 4) (v := .ref a_upsOf) (C := "FermionMapsModel") (T := F_Mo) (N := 25) hx hb ht0 i_Mo hown hK hP 0 rfl rfl 3 (by decide) (ht0 _ m_460) (fun _ h9 => h9) rfl d_Mo_product_36 ?_
            refine lv_iload_n hx hb d_Mo_product_39 rfl (lv_at hl 1 rfl) ?_
            obtain ⟨hi_10, hf⟩ := ckI_ok hf
            refine va_iald hx hb hK hP 1 0 rfl rfl hi_10 d_Mo_product_40 ?_
            refine lv_goto (tgt := 65) hx hb d_Mo_product_41 (by decide) ?_
            have hu := Option.some.inj hf
            subst hu
            exact rw_i hQ rfl rfl hP hD hK hS hx hb hr hlocks d_Mo_product_65
        · replace hf := if_f c_5 hf
          exact B_26 0 H locs ls hf hP hD hS (lv_sub hl [0] rfl)

/-! FermionMapsModel.climb(IZ)Z -/
def b_Mo_climb_50 (F : Nat) (x1 : Int32) (madeState : Int32) (madeSign : Int32) : Option (Int32 × Int32 × Int32) :=
  nm ((madeState ^^^ ((1 : Int32) <<< (x1 &&& 31))) : Int32) fun madeState_6 =>
  some (1, madeState_6, madeSign)
def b_Mo_climb_17 (F : Nat) (x1 : Int32) (s0 : Int32) (s1 : Int32) (madeState : Int32) (madeSign : Int32) : Option (Int32 × Int32 × Int32) :=
  if s0 = s1 then
    some (0, madeState, madeSign)
  else
    (f_Mo_ones F (madeState &&& (((1 : Int32) <<< (x1 &&& 31)) - 1))).bind fun u_3 =>
    ckZ 2 <|
    if (u_3 - u_3 / 2 * 2) = 1 then
      nm ((-madeSign) : Int32) fun madeSign_7 =>
      b_Mo_climb_50 F x1 madeState madeSign_7
    else
      b_Mo_climb_50 F x1 madeState madeSign
def f_Mo_climb (F : Nat) (madeState : Int32) (madeSign : Int32) (p1 : Int32) (p2 : Int32) : Option (Int32 × Int32 × Int32) :=
  if p2 = 0 then
    b_Mo_climb_17 F p1 ((madeState >>> (p1 &&& 31)) &&& 1) 0 madeState madeSign
  else
    b_Mo_climb_17 F p1 ((madeState >>> (p1 &&& 31)) &&& 1) 1 madeState madeSign
abbrev rm_Mo_climb : Room := { frames := 1, cells := 0, slots := 0, locals := 22 }
set_option maxHeartbeats 4000000 in
set_option maxRecDepth 100000 in
theorem c_Mo_climb (l : Launch) (dC : Nat → ClassId) (dI : Nat → Nat → Nat) (cI cJ : ClassId) (a_p0 z_upsOf z_downsOf z_numberOf z_rowOf z_writes z_reads z_matrix z_other z_newUps z_newDowns z_newNumber z_found z_image z_imagePlace : Nat) (sz : Nat) (thrown : Int32) (modes : Int32) (products : Int32) (wayKind : Int32) (isImageKnown : Int32) (madeState : Int32) (madeSign : Int32) (newMany : Int32) (imagePower : Int32) (imageMany : Int32) (imageWires : Int32) (p1 : Int32) (p2 : Int32) (F : Nat) (u : Int32 × Int32 × Int32) (hf : f_Mo_climb F madeState madeSign p1 p2 = some u) : Met l y_Mo_climb (Cond.code y_Mo_climb prog_6_method_9_code 3 (some .boolean) :: T0) rm_Mo_climb (va_Pc [.ref a_p0, .int p1, .int p2] (Ww (dC, dI) [(a_p0, .inr (4, [.int thrown, .int modes, .int products, .ref z_upsOf, .ref z_downsOf, .ref z_numberOf, .int wayKind, .ref z_rowOf, .ref z_writes, .ref z_reads, .int isImageKnown, .int madeState, .int madeSign, .ref z_matrix, .ref z_other, .int newMany, .ref z_newUps, .ref z_newDowns, .ref z_newNumber, .ref z_found, .ref z_image, .ref z_imagePlace, .int imagePower, .int imageMany, .int imageWires]))] [(cI, .int), (cJ, .long)] sz)) (va_Qi (fun r (_ : Unit) => r = u.1) (Bw (dC, dI) [(cI, .int), (cJ, .long)] (va_A [(a_p0, .inr (4, [.int thrown, .int modes, .int products, .ref z_upsOf, .ref z_downsOf, .ref z_numberOf, .int wayKind, .ref z_rowOf, .ref z_writes, .ref z_reads, .int isImageKnown, .int madeState, .int madeSign, .ref z_matrix, .ref z_other, .int newMany, .ref z_newUps, .ref z_newDowns, .ref z_newNumber, .ref z_found, .ref z_image, .ref z_imagePlace, .int imagePower, .int imageMany, .int imageWires]))] sz) (fun w1 => w1 = [(a_p0, .inr (4, [.int thrown, .int modes, .int products, .ref z_upsOf, .ref z_downsOf, .ref z_numberOf, .int wayKind, .ref z_rowOf, .ref z_writes, .ref z_reads, .int isImageKnown, .int u.2.1, .int u.2.2, .ref z_matrix, .ref z_other, .int newMany, .ref z_newUps, .ref z_newDowns, .ref z_newNumber, .ref z_found, .ref z_image, .ref z_imagePlace, .int imagePower, .int imageMany, .int imageWires]))])) (va_A [(a_p0, .inr (4, [.int thrown, .int modes, .int products, .ref z_upsOf, .ref z_downsOf, .ref z_numberOf, .int wayKind, .ref z_rowOf, .ref z_writes, .ref z_reads, .int isImageKnown, .int madeState, .int madeSign, .ref z_matrix, .ref z_other, .int newMany, .ref z_newUps, .ref z_newDowns, .ref z_newNumber, .ref z_found, .ref z_image, .ref z_imagePlace, .int imagePower, .int imageMany, .int imageWires]))] sz)) 0 0 (va_A [(a_p0, .inr (4, [.int thrown, .int modes, .int products, .ref z_upsOf, .ref z_downsOf, .ref z_numberOf, .int wayKind, .ref z_rowOf, .ref z_writes, .ref z_reads, .int isImageKnown, .int madeState, .int madeSign, .ref z_matrix, .ref z_other, .int newMany, .ref z_newUps, .ref z_newDowns, .ref z_newNumber, .ref z_found, .ref z_image, .ref z_imagePlace, .int imagePower, .int imageMany, .int imageWires]))] sz) := by
  refine Met.ofW (cc := prog_6_method_9_code) (maxL := 3) (ret := (some .boolean)) (by decide) rfl ?_
  intro p e s m args below meth c s₁ B hml hv
  obtain ⟨rfl, hsz, hP, hK, hD0, hNW⟩ := hv
  have hx := B.exec
  have hb := B.bytes
  have hr := B.returns
  have hts := atoms_spec (ws := Cond.code y_Mo_climb prog_6_method_9_code 3 (some .boolean) :: T0) B.pre
  have ht0 : ∀ w ∈ T0, w.before ([.ref a_p0, .int p1, .int p2] : List Value).toArray s = true := fun w h => hts w (List.mem_cons_of_mem _ h)
  have hown : s.vm.findClass "FermionMapsModel" = some m.cls := findClass_of_methodNamed B.named
  have hlocks := B.notSynchronized
  subst hsz
  have hD := hD0.self (sz := s.heap.size)
  generalize hAe : va_A [(a_p0, .inr (4, [.int thrown, .int modes, .int products, .ref z_upsOf, .ref z_downsOf, .ref z_numberOf, .int wayKind, .ref z_rowOf, .ref z_writes, .ref z_reads, .int isImageKnown, .int madeState, .int madeSign, .ref z_matrix, .ref z_other, .int newMany, .ref z_newUps, .ref z_newDowns, .ref z_newNumber, .ref z_found, .ref z_image, .ref z_imagePlace, .int imagePower, .int imageMany, .int imageWires]))] s.heap.size = A at hD ⊢
  have hA : ∀ q : Nat, s.heap.size ≤ q → A q := fun q h => by rw [← hAe]; exact Or.inr h
  have hS : va_S A s.heap s.heap [] := va_S.rf
  have hl := lv_entry ([.ref a_p0, .int p1, .int p2]) (n := 3) (Nat.le_of_ble_eq_true rfl)
  rw [lg_entry_eq]
  generalize (lg_sl ([.ref a_p0, .int p1, .int p2]) ++ List.replicate (3 - (lg_sl ([.ref a_p0, .int p1, .int p2])).length) Slot.unset).toArray = ls at hl ⊢
  have hl : lv_has ls 3 [(0, .ref a_p0), (1, .int p1), (2, .int p2)] := hl
  refine W.nameQ (fun Q hQ => ?_)
  have B_50 : ∀ (x1 : Int32) (madeState : Int32) (madeSign : Int32) (H : Heap) (locs : List Loc) (ls : Array Slot), b_Mo_climb_50 F x1 madeState madeSign = some u → va_P (dC, dI) cls [(a_p0, .inr (4, [.int thrown, .int modes, .int products, .ref z_upsOf, .ref z_downsOf, .ref z_numberOf, .int wayKind, .ref z_rowOf, .ref z_writes, .ref z_reads, .int isImageKnown, .int madeState, .int madeSign, .ref z_matrix, .ref z_other, .int newMany, .ref z_newUps, .ref z_newDowns, .ref z_newNumber, .ref z_found, .ref z_image, .ref z_imagePlace, .int imagePower, .int imageMany, .int imageWires]))] H → va_D A [(a_p0, .inr (4, [.int thrown, .int modes, .int products, .ref z_upsOf, .ref z_downsOf, .ref z_numberOf, .int wayKind, .ref z_rowOf, .ref z_writes, .ref z_reads, .int isImageKnown, .int madeState, .int madeSign, .ref z_matrix, .ref z_other, .int newMany, .ref z_newUps, .ref z_newDowns, .ref z_newNumber, .ref z_found, .ref z_image, .ref z_imagePlace, .int imagePower, .int imageMany, .int imageWires]))] → va_S A s.heap H locs → lv_has ls 3 [(0, .ref a_p0), (1, .int x1)] → W p l e (headSpec (Cond.code y_Mo_climb prog_6_method_9_code 3 (some .boolean) :: T0) rm_Mo_climb).room s m ([.ref a_p0, .int p1, .int p2] : List Value).toArray below meth c H locs 0 0 Q (F0 m 50 ls []) := by
    intro x1 madeState madeSign H locs ls hf hP hD hS hl
    rw [b_Mo_climb_50] at hf
    refine lv_aload_n hx hb d_Mo_climb_50 rfl (lv_at hl 0 rfl) ?_
    refine lv_dup hx hb d_Mo_climb_51 rfl ?_
    refine va_get (D := (dC, dI)) (ci := 4) (v := .int madeState) (C := "FermionMapsModel") (T := F_Mo) (N := 25) hx hb ht0 i_Mo hown hK hP 0 rfl rfl 11 (by decide) (ht0 _ m_468) (fun _ h9 => h9) rfl d_Mo_climb_52 ?_
    refine lv_iconst (v := 1) hx hb d_Mo_climb_55 (by decide) ?_
    refine lv_iload_n hx hb d_Mo_climb_56 rfl (lv_at hl 1 rfl) ?_
    refine lv_ishl hx hb d_Mo_climb_57 ?_
    refine lv_ixor hx hb d_Mo_climb_58 ?_
    refine lv_topi (fun madeState_6 e_madeState_6 => ?_)
    replace hf := nm_eq e_madeState_6 hf
    refine va_put (D := (dC, dI)) (ci := 4) (v := .int madeState_6) (ty := .int) (C := "FermionMapsModel") (T := F_Mo) (N := 25) hx hb ht0 i_Mo t_Mo t_Mo_ok n_Mo hown hK hP hD hS 0 rfl rfl 11 (by decide) (ht0 _ m_468) (fun _ h9 => h9) rfl (by decide +kernel) rfl rfl (Nat.le_of_ble_eq_true rfl) d_Mo_climb_59 (fun H locs hP hD hS => ?_)
    have hP : va_P (dC, dI) cls [(a_p0, .inr (4, [.int thrown, .int modes, .int products, .ref z_upsOf, .ref z_downsOf, .ref z_numberOf, .int wayKind, .ref z_rowOf, .ref z_writes, .ref z_reads, .int isImageKnown, .int madeState_6, .int madeSign, .ref z_matrix, .ref z_other, .int newMany, .ref z_newUps, .ref z_newDowns, .ref z_newNumber, .ref z_found, .ref z_image, .ref z_imagePlace, .int imagePower, .int imageMany, .int imageWires]))] H := hP
    have hD : va_D A [(a_p0, .inr (4, [.int thrown, .int modes, .int products, .ref z_upsOf, .ref z_downsOf, .ref z_numberOf, .int wayKind, .ref z_rowOf, .ref z_writes, .ref z_reads, .int isImageKnown, .int madeState_6, .int madeSign, .ref z_matrix, .ref z_other, .int newMany, .ref z_newUps, .ref z_newDowns, .ref z_newNumber, .ref z_found, .ref z_image, .ref z_imagePlace, .int imagePower, .int imageMany, .int imageWires]))] := hD
    refine lv_iconst (v := 1) hx hb d_Mo_climb_62 (by decide) ?_
    have hu := Option.some.inj hf
    subst hu
    exact rw_z hQ rfl rfl rfl hP hD hK hS hx hb hr hlocks d_Mo_climb_63
  have B_17 : ∀ (x1 : Int32) (s0 : Int32) (s1 : Int32) (madeState : Int32) (madeSign : Int32) (H : Heap) (locs : List Loc) (ls : Array Slot), b_Mo_climb_17 F x1 s0 s1 madeState madeSign = some u → va_P (dC, dI) cls [(a_p0, .inr (4, [.int thrown, .int modes, .int products, .ref z_upsOf, .ref z_downsOf, .ref z_numberOf, .int wayKind, .ref z_rowOf, .ref z_writes, .ref z_reads, .int isImageKnown, .int madeState, .int madeSign, .ref z_matrix, .ref z_other, .int newMany, .ref z_newUps, .ref z_newDowns, .ref z_newNumber, .ref z_found, .ref z_image, .ref z_imagePlace, .int imagePower, .int imageMany, .int imageWires]))] H → va_D A [(a_p0, .inr (4, [.int thrown, .int modes, .int products, .ref z_upsOf, .ref z_downsOf, .ref z_numberOf, .int wayKind, .ref z_rowOf, .ref z_writes, .ref z_reads, .int isImageKnown, .int madeState, .int madeSign, .ref z_matrix, .ref z_other, .int newMany, .ref z_newUps, .ref z_newDowns, .ref z_newNumber, .ref z_found, .ref z_image, .ref z_imagePlace, .int imagePower, .int imageMany, .int imageWires]))] → va_S A s.heap H locs → lv_has ls 3 [(0, .ref a_p0), (1, .int x1)] → W p l e (headSpec (Cond.code y_Mo_climb prog_6_method_9_code 3 (some .boolean) :: T0) rm_Mo_climb).room s m ([.ref a_p0, .int p1, .int p2] : List Value).toArray below meth c H locs 0 0 Q (F0 m 17 ls [.int s1, .int s0]) := by
    intro x1 s0 s1 madeState madeSign H locs ls hf hP hD hS hl
    rw [b_Mo_climb_17] at hf
    refine lv_icmp_ne (tgt := 22) hx hb d_Mo_climb_17 (by decide) (fun c_2 => ?_) (fun c_2 => ?_)
    · replace hf := if_f c_2 hf
      refine lv_aload_n hx hb d_Mo_climb_22 rfl (lv_at hl 0 rfl) ?_
      refine va_get (D := (dC, dI)) (ci := 4) (v := .int madeState) (C := "FermionMapsModel") (T := F_Mo) (N := 25) hx hb ht0 i_Mo hown hK hP 0 rfl rfl 11 (by decide) (ht0 _ m_468) (fun _ h9 => h9) rfl d_Mo_climb_23 ?_
      refine lv_iconst (v := 1) hx hb d_Mo_climb_26 (by decide) ?_
      refine lv_iload_n hx hb d_Mo_climb_27 rfl (lv_at hl 1 rfl) ?_
      refine lv_ishl hx hb d_Mo_climb_28 ?_
      refine lv_iconst (v := 1) hx hb d_Mo_climb_29 (by decide) ?_
      refine lv_isub hx hb d_Mo_climb_30 ?_
      refine lv_iand hx hb d_Mo_climb_31 ?_
      obtain ⟨u_3, h_u_3, hf⟩ := bd hf
      refine rd_i (rdS_run (As := [.int (madeState &&& (((1 : Int32) <<< (x1 &&& 31)) - 1))]) (rest := []) ⟨hx, hb, hml, hown, ht0⟩ (c_Mo_ones l dC dI cI cJ (madeState &&& (((1 : Int32) <<< (x1 &&& 31)) - 1)) F u_3 h_u_3) (va_cwS 1 ht0 (gS m_454 m_455 m_5 m_456) rfl rfl rfl (by decide +kernel) ⟨Nat.le_of_ble_eq_true rfl, Nat.le_of_ble_eq_true rfl⟩) hK hNW hP [] rfl  rfl hl.1 rfl (Nat.le_of_ble_eq_true rfl) d_Mo_climb_32 ⟨Nat.zero_le _, Nat.zero_le _⟩) ?_
      refine lv_iconst (v := 2) hx hb d_Mo_climb_35 (by decide) ?_
      obtain ⟨hz_4, hf⟩ := ckZ_ok hf
      refine lv_irem hx hb d_Mo_climb_36 hz_4 ?_
      refine lv_iconst (v := 1) hx hb d_Mo_climb_37 (by decide) ?_
      refine lv_icmp_ne (tgt := 50) hx hb d_Mo_climb_38 (by decide) (fun c_5 => ?_) (fun c_5 => ?_)
      · replace hf := if_f c_5 hf
        exact B_50 x1 madeState madeSign H locs ls hf hP hD hS (lv_sub hl [0, 1] rfl)
      · replace hf := if_t c_5 hf
        refine lv_aload_n hx hb d_Mo_climb_41 rfl (lv_at hl 0 rfl) ?_
        refine lv_aload_n hx hb d_Mo_climb_42 rfl (lv_at hl 0 rfl) ?_
        refine va_get (D := (dC, dI)) (ci := 4) (v := .int madeSign) (C := "FermionMapsModel") (T := F_Mo) (N := 25) hx hb ht0 i_Mo hown hK hP 0 rfl rfl 12 (by decide) (ht0 _ m_469) (fun _ h9 => h9) rfl d_Mo_climb_43 ?_
        refine lv_ineg hx hb d_Mo_climb_46 ?_
        refine lv_topi (fun madeSign_7 e_madeSign_7 => ?_)
        replace hf := nm_eq e_madeSign_7 hf
        refine va_put (D := (dC, dI)) (ci := 4) (v := .int madeSign_7) (ty := .int) (C := "FermionMapsModel") (T := F_Mo) (N := 25) hx hb ht0 i_Mo t_Mo t_Mo_ok n_Mo hown hK hP hD hS 0 rfl rfl 12 (by decide) (ht0 _ m_469) (fun _ h9 => h9) rfl (by decide +kernel) rfl rfl (Nat.le_of_ble_eq_true rfl) d_Mo_climb_47 (fun H locs hP hD hS => ?_)
        have hP : va_P (dC, dI) cls [(a_p0, .inr (4, [.int thrown, .int modes, .int products, .ref z_upsOf, .ref z_downsOf, .ref z_numberOf, .int wayKind, .ref z_rowOf, .ref z_writes, .ref z_reads, .int isImageKnown, .int madeState, .int madeSign_7, .ref z_matrix, .ref z_other, .int newMany, .ref z_newUps, .ref z_newDowns, .ref z_newNumber, .ref z_found, .ref z_image, .ref z_imagePlace, .int imagePower, .int imageMany, .int imageWires]))] H := hP
        have hD : va_D A [(a_p0, .inr (4, [.int thrown, .int modes, .int products, .ref z_upsOf, .ref z_downsOf, .ref z_numberOf, .int wayKind, .ref z_rowOf, .ref z_writes, .ref z_reads, .int isImageKnown, .int madeState, .int madeSign_7, .ref z_matrix, .ref z_other, .int newMany, .ref z_newUps, .ref z_newDowns, .ref z_newNumber, .ref z_found, .ref z_image, .ref z_imagePlace, .int imagePower, .int imageMany, .int imageWires]))] := hD
        exact B_50 x1 madeState madeSign_7 H locs ls hf hP hD hS (lv_sub hl [0, 1] rfl)
    · replace hf := if_t c_2 hf
      refine lv_iconst (v := 0) hx hb d_Mo_climb_20 (by decide) ?_
      have hu := Option.some.inj hf
      subst hu
      exact rw_z hQ rfl rfl rfl hP hD hK hS hx hb hr hlocks d_Mo_climb_21
  rw [f_Mo_climb] at hf
  refine lv_aload_n hx hb d_Mo_climb_0 rfl (lv_at hl 0 rfl) ?_
  refine va_get (D := (dC, dI)) (ci := 4) (v := .int madeState) (C := "FermionMapsModel") (T := F_Mo) (N := 25) hx hb ht0 i_Mo hown hK hP 0 rfl rfl 11 (by decide) (ht0 _ m_468) (fun _ h9 => h9) rfl d_Mo_climb_1 ?_
  refine lv_iload_n hx hb d_Mo_climb_4 rfl (lv_at hl 1 rfl) ?_
  refine lv_ishr hx hb d_Mo_climb_5 ?_
  refine lv_iconst (v := 1) hx hb d_Mo_climb_6 (by decide) ?_
  refine lv_iand hx hb d_Mo_climb_7 ?_
  refine lv_iload_n hx hb d_Mo_climb_8 rfl (lv_at hl 2 rfl) ?_
  refine lv_if_eq (tgt := 16) hx hb d_Mo_climb_9 (by decide) (fun c_1 => ?_) (fun c_1 => ?_)
  · replace hf := if_t c_1 hf
    refine lv_iconst (v := 0) hx hb d_Mo_climb_16 (by decide) ?_
    exact B_17 p1 ((madeState >>> (p1 &&& 31)) &&& 1) 0 madeState madeSign s.heap [] ls hf hP hD hS (lv_sub hl [0, 1] rfl)
  · replace hf := if_f c_1 hf
    refine lv_iconst (v := 1) hx hb d_Mo_climb_12 (by decide) ?_
    refine lv_goto (tgt := 17) hx hb d_Mo_climb_13 (by decide) ?_
    exact B_17 p1 ((madeState >>> (p1 &&& 31)) &&& 1) 1 madeState madeSign s.heap [] ls hf hP hD hS (lv_sub hl [0, 1] rfl)

/-! FermionMapsModel.make(III)Z -/
def b_Mo_make_101 (F : Nat) (k_64 : Int32 → Int32 → Int32 → Int32 → Int32 → Option (Int32 × Int32 × Int32)) (x1 : Int32) (x4 : Int32) (x5 : Int32) (madeState : Int32) (madeSign : Int32) : Option (Int32 × Int32 × Int32) :=
  nm (x5 + (-1) : Int32) fun x5_5 =>
  k_64 x1 x4 x5_5 madeState madeSign
def b_Mo_make_99 (F : Nat) (k_64 : Int32 → Int32 → Int32 → Int32 → Int32 → Option (Int32 × Int32 × Int32)) (x1 : Int32) (x5 : Int32) (s0 : Int32) (madeState : Int32) (madeSign : Int32) : Option (Int32 × Int32 × Int32) :=
  b_Mo_make_101 F k_64 x1 s0 x5 madeState madeSign
def b_Mo_make_98 (F : Nat) (k_64 : Int32 → Int32 → Int32 → Int32 → Int32 → Option (Int32 × Int32 × Int32)) (x1 : Int32) (x5 : Int32) (madeState : Int32) (madeSign : Int32) : Option (Int32 × Int32 × Int32) :=
  b_Mo_make_99 F k_64 x1 x5 0 madeState madeSign
def b_Mo_make_64 (F : Nat) : Nat → Int32 → Int32 → Int32 → Int32 → Int32 → Option (Int32 × Int32 × Int32)
  | 0, _, _, _, _, _ => none
  | n + 1, x1, x4, x5, madeState, madeSign =>
    if x5 < 0 then
      ckB x4 <|
      some (x4, madeState, madeSign)
    else
      if ((x1 >>> (x5 &&& 31)) &&& 1) = 1 then
        if x4 = 0 then
          b_Mo_make_98 F (b_Mo_make_64 F n) x1 x5 madeState madeSign
        else
          (f_Mo_climb F madeState madeSign x5 1).bind fun u_7 =>
          if u_7.1 = 0 then
            b_Mo_make_98 F (b_Mo_make_64 F n) x1 x5 u_7.2.1 u_7.2.2
          else
            b_Mo_make_99 F (b_Mo_make_64 F n) x1 x5 1 u_7.2.1 u_7.2.2
      else
        b_Mo_make_101 F (b_Mo_make_64 F n) x1 x4 x5 madeState madeSign
def b_Mo_make_54 (F : Nat) (k_17 : Int32 → Int32 → Int32 → Int32 → Int32 → Int32 → Option (Int32 × Int32 × Int32)) (x1 : Int32) (x2 : Int32) (x4 : Int32) (x5 : Int32) (madeState : Int32) (madeSign : Int32) : Option (Int32 × Int32 × Int32) :=
  nm (x5 + (-1) : Int32) fun x5_10 =>
  k_17 x1 x2 x4 x5_10 madeState madeSign
def b_Mo_make_52 (F : Nat) (k_17 : Int32 → Int32 → Int32 → Int32 → Int32 → Int32 → Option (Int32 × Int32 × Int32)) (x1 : Int32) (x2 : Int32) (x5 : Int32) (s0 : Int32) (madeState : Int32) (madeSign : Int32) : Option (Int32 × Int32 × Int32) :=
  b_Mo_make_54 F k_17 x1 x2 s0 x5 madeState madeSign
def b_Mo_make_51 (F : Nat) (k_17 : Int32 → Int32 → Int32 → Int32 → Int32 → Int32 → Option (Int32 × Int32 × Int32)) (x1 : Int32) (x2 : Int32) (x5 : Int32) (madeState : Int32) (madeSign : Int32) : Option (Int32 × Int32 × Int32) :=
  b_Mo_make_52 F k_17 x1 x2 x5 0 madeState madeSign
def b_Mo_make_17 (F : Nat) : Nat → Int32 → Int32 → Int32 → Int32 → Int32 → Int32 → Option (Int32 × Int32 × Int32)
  | 0, _, _, _, _, _, _ => none
  | n + 1, x1, x2, x4, x5, madeState, madeSign =>
    if x5 < 0 then
      b_Mo_make_64 F F x1 x4 7 madeState madeSign
    else
      if ((x2 >>> (x5 &&& 31)) &&& 1) = 1 then
        if x4 = 0 then
          b_Mo_make_51 F (b_Mo_make_17 F n) x1 x2 x5 madeState madeSign
        else
          (f_Mo_climb F madeState madeSign x5 0).bind fun u_12 =>
          if u_12.1 = 0 then
            b_Mo_make_51 F (b_Mo_make_17 F n) x1 x2 x5 u_12.2.1 u_12.2.2
          else
            b_Mo_make_52 F (b_Mo_make_17 F n) x1 x2 x5 1 u_12.2.1 u_12.2.2
      else
        b_Mo_make_54 F (b_Mo_make_17 F n) x1 x2 x4 x5 madeState madeSign
def f_Mo_make (F : Nat) (madeState : Int32) (madeSign : Int32) (p1 : Int32) (p2 : Int32) (p3 : Int32) : Option (Int32 × Int32 × Int32) :=
  b_Mo_make_17 F F p1 p2 1 7 p3 1
abbrev rm_Mo_make : Room := { frames := 2, cells := 0, slots := 0, locals := 44 }
set_option maxHeartbeats 4000000 in
set_option maxRecDepth 100000 in
theorem c_Mo_make (l : Launch) (dC : Nat → ClassId) (dI : Nat → Nat → Nat) (cI cJ : ClassId) (a_p0 z_upsOf z_downsOf z_numberOf z_rowOf z_writes z_reads z_matrix z_other z_newUps z_newDowns z_newNumber z_found z_image z_imagePlace : Nat) (sz : Nat) (thrown : Int32) (modes : Int32) (products : Int32) (wayKind : Int32) (isImageKnown : Int32) (madeState : Int32) (madeSign : Int32) (newMany : Int32) (imagePower : Int32) (imageMany : Int32) (imageWires : Int32) (p1 : Int32) (p2 : Int32) (p3 : Int32) (F : Nat) (u : Int32 × Int32 × Int32) (hf : f_Mo_make F madeState madeSign p1 p2 p3 = some u) : Met l y_Mo_make (Cond.code y_Mo_make prog_6_method_10_code 6 (some .boolean) :: T0) rm_Mo_make (va_Pc [.ref a_p0, .int p1, .int p2, .int p3] (Ww (dC, dI) [(a_p0, .inr (4, [.int thrown, .int modes, .int products, .ref z_upsOf, .ref z_downsOf, .ref z_numberOf, .int wayKind, .ref z_rowOf, .ref z_writes, .ref z_reads, .int isImageKnown, .int madeState, .int madeSign, .ref z_matrix, .ref z_other, .int newMany, .ref z_newUps, .ref z_newDowns, .ref z_newNumber, .ref z_found, .ref z_image, .ref z_imagePlace, .int imagePower, .int imageMany, .int imageWires]))] [(cI, .int), (cJ, .long)] sz)) (va_Qi (fun r (_ : Unit) => r = u.1) (Bw (dC, dI) [(cI, .int), (cJ, .long)] (va_A [(a_p0, .inr (4, [.int thrown, .int modes, .int products, .ref z_upsOf, .ref z_downsOf, .ref z_numberOf, .int wayKind, .ref z_rowOf, .ref z_writes, .ref z_reads, .int isImageKnown, .int madeState, .int madeSign, .ref z_matrix, .ref z_other, .int newMany, .ref z_newUps, .ref z_newDowns, .ref z_newNumber, .ref z_found, .ref z_image, .ref z_imagePlace, .int imagePower, .int imageMany, .int imageWires]))] sz) (fun w1 => w1 = [(a_p0, .inr (4, [.int thrown, .int modes, .int products, .ref z_upsOf, .ref z_downsOf, .ref z_numberOf, .int wayKind, .ref z_rowOf, .ref z_writes, .ref z_reads, .int isImageKnown, .int u.2.1, .int u.2.2, .ref z_matrix, .ref z_other, .int newMany, .ref z_newUps, .ref z_newDowns, .ref z_newNumber, .ref z_found, .ref z_image, .ref z_imagePlace, .int imagePower, .int imageMany, .int imageWires]))])) (va_A [(a_p0, .inr (4, [.int thrown, .int modes, .int products, .ref z_upsOf, .ref z_downsOf, .ref z_numberOf, .int wayKind, .ref z_rowOf, .ref z_writes, .ref z_reads, .int isImageKnown, .int madeState, .int madeSign, .ref z_matrix, .ref z_other, .int newMany, .ref z_newUps, .ref z_newDowns, .ref z_newNumber, .ref z_found, .ref z_image, .ref z_imagePlace, .int imagePower, .int imageMany, .int imageWires]))] sz)) 0 0 (va_A [(a_p0, .inr (4, [.int thrown, .int modes, .int products, .ref z_upsOf, .ref z_downsOf, .ref z_numberOf, .int wayKind, .ref z_rowOf, .ref z_writes, .ref z_reads, .int isImageKnown, .int madeState, .int madeSign, .ref z_matrix, .ref z_other, .int newMany, .ref z_newUps, .ref z_newDowns, .ref z_newNumber, .ref z_found, .ref z_image, .ref z_imagePlace, .int imagePower, .int imageMany, .int imageWires]))] sz) := by
  refine Met.ofW (cc := prog_6_method_10_code) (maxL := 6) (ret := (some .boolean)) (by decide) rfl ?_
  intro p e s m args below meth c s₁ B hml hv
  obtain ⟨rfl, hsz, hP, hK, hD0, hNW⟩ := hv
  have hx := B.exec
  have hb := B.bytes
  have hr := B.returns
  have hts := atoms_spec (ws := Cond.code y_Mo_make prog_6_method_10_code 6 (some .boolean) :: T0) B.pre
  have ht0 : ∀ w ∈ T0, w.before ([.ref a_p0, .int p1, .int p2, .int p3] : List Value).toArray s = true := fun w h => hts w (List.mem_cons_of_mem _ h)
  have hown : s.vm.findClass "FermionMapsModel" = some m.cls := findClass_of_methodNamed B.named
  have hlocks := B.notSynchronized
  subst hsz
  have hD := hD0.self (sz := s.heap.size)
  generalize hAe : va_A [(a_p0, .inr (4, [.int thrown, .int modes, .int products, .ref z_upsOf, .ref z_downsOf, .ref z_numberOf, .int wayKind, .ref z_rowOf, .ref z_writes, .ref z_reads, .int isImageKnown, .int madeState, .int madeSign, .ref z_matrix, .ref z_other, .int newMany, .ref z_newUps, .ref z_newDowns, .ref z_newNumber, .ref z_found, .ref z_image, .ref z_imagePlace, .int imagePower, .int imageMany, .int imageWires]))] s.heap.size = A at hD ⊢
  have hA : ∀ q : Nat, s.heap.size ≤ q → A q := fun q h => by rw [← hAe]; exact Or.inr h
  have hS : va_S A s.heap s.heap [] := va_S.rf
  have hl := lv_entry ([.ref a_p0, .int p1, .int p2, .int p3]) (n := 6) (Nat.le_of_ble_eq_true rfl)
  rw [lg_entry_eq]
  generalize (lg_sl ([.ref a_p0, .int p1, .int p2, .int p3]) ++ List.replicate (6 - (lg_sl ([.ref a_p0, .int p1, .int p2, .int p3])).length) Slot.unset).toArray = ls at hl ⊢
  have hl : lv_has ls 6 [(0, .ref a_p0), (1, .int p1), (2, .int p2), (3, .int p3)] := hl
  refine W.nameQ (fun Q hQ => ?_)
  have B_101 : ∀ (k_64 : Int32 → Int32 → Int32 → Int32 → Int32 → Option (Int32 × Int32 × Int32)) (hk_64 : ∀ (x1 : Int32) (x4 : Int32) (x5 : Int32) (madeState : Int32) (madeSign : Int32) (H : Heap) (locs : List Loc) (ls : Array Slot), k_64 x1 x4 x5 madeState madeSign = some u → va_P (dC, dI) cls [(a_p0, .inr (4, [.int thrown, .int modes, .int products, .ref z_upsOf, .ref z_downsOf, .ref z_numberOf, .int wayKind, .ref z_rowOf, .ref z_writes, .ref z_reads, .int isImageKnown, .int madeState, .int madeSign, .ref z_matrix, .ref z_other, .int newMany, .ref z_newUps, .ref z_newDowns, .ref z_newNumber, .ref z_found, .ref z_image, .ref z_imagePlace, .int imagePower, .int imageMany, .int imageWires]))] H → va_D A [(a_p0, .inr (4, [.int thrown, .int modes, .int products, .ref z_upsOf, .ref z_downsOf, .ref z_numberOf, .int wayKind, .ref z_rowOf, .ref z_writes, .ref z_reads, .int isImageKnown, .int madeState, .int madeSign, .ref z_matrix, .ref z_other, .int newMany, .ref z_newUps, .ref z_newDowns, .ref z_newNumber, .ref z_found, .ref z_image, .ref z_imagePlace, .int imagePower, .int imageMany, .int imageWires]))] → va_S A s.heap H locs → lv_has ls 6 [(0, .ref a_p0), (1, .int x1), (4, .int x4), (5, .int x5)] → W p l e (headSpec (Cond.code y_Mo_make prog_6_method_10_code 6 (some .boolean) :: T0) rm_Mo_make).room s m ([.ref a_p0, .int p1, .int p2, .int p3] : List Value).toArray below meth c H locs 0 0 Q (F0 m 64 ls [])), ∀ (x1 : Int32) (x4 : Int32) (x5 : Int32) (madeState : Int32) (madeSign : Int32) (H : Heap) (locs : List Loc) (ls : Array Slot), b_Mo_make_101 F k_64 x1 x4 x5 madeState madeSign = some u → va_P (dC, dI) cls [(a_p0, .inr (4, [.int thrown, .int modes, .int products, .ref z_upsOf, .ref z_downsOf, .ref z_numberOf, .int wayKind, .ref z_rowOf, .ref z_writes, .ref z_reads, .int isImageKnown, .int madeState, .int madeSign, .ref z_matrix, .ref z_other, .int newMany, .ref z_newUps, .ref z_newDowns, .ref z_newNumber, .ref z_found, .ref z_image, .ref z_imagePlace, .int imagePower, .int imageMany, .int imageWires]))] H → va_D A [(a_p0, .inr (4, [.int thrown, .int modes, .int products, .ref z_upsOf, .ref z_downsOf, .ref z_numberOf, .int wayKind, .ref z_rowOf, .ref z_writes, .ref z_reads, .int isImageKnown, .int madeState, .int madeSign, .ref z_matrix, .ref z_other, .int newMany, .ref z_newUps, .ref z_newDowns, .ref z_newNumber, .ref z_found, .ref z_image, .ref z_imagePlace, .int imagePower, .int imageMany, .int imageWires]))] → va_S A s.heap H locs → lv_has ls 6 [(0, .ref a_p0), (1, .int x1), (4, .int x4), (5, .int x5)] → W p l e (headSpec (Cond.code y_Mo_make prog_6_method_10_code 6 (some .boolean) :: T0) rm_Mo_make).room s m ([.ref a_p0, .int p1, .int p2, .int p3] : List Value).toArray below meth c H locs 0 0 Q (F0 m 101 ls []) := by
    intro k_64 hk_64
    intro x1 x4 x5 madeState madeSign H locs ls hf hP hD hS hl
    rw [b_Mo_make_101] at hf
    obtain ⟨x5_5, e_x5_5⟩ : ∃ y : Int32, y = x5 + (-1) := ⟨_, rfl⟩
    replace hf := nm_eq e_x5_5 hf
    refine lv_iinc (v := x5_5) (lv' := [(5, .int x5_5), (0, .ref a_p0), (1, .int x1), (4, .int x4)]) hx hb d_Mo_make_101 hl (k := 3) rfl (by rw [e_x5_5]; rfl) (by decide) rfl (fun ls hl => ?_)
    refine lv_goto (tgt := 64) hx hb d_Mo_make_104 (by decide) ?_
    exact hk_64 x1 x4 x5_5 madeState madeSign H locs ls hf hP hD hS (lv_sub hl [1, 2, 3, 0] rfl)
  have B_99 : ∀ (k_64 : Int32 → Int32 → Int32 → Int32 → Int32 → Option (Int32 × Int32 × Int32)) (hk_64 : ∀ (x1 : Int32) (x4 : Int32) (x5 : Int32) (madeState : Int32) (madeSign : Int32) (H : Heap) (locs : List Loc) (ls : Array Slot), k_64 x1 x4 x5 madeState madeSign = some u → va_P (dC, dI) cls [(a_p0, .inr (4, [.int thrown, .int modes, .int products, .ref z_upsOf, .ref z_downsOf, .ref z_numberOf, .int wayKind, .ref z_rowOf, .ref z_writes, .ref z_reads, .int isImageKnown, .int madeState, .int madeSign, .ref z_matrix, .ref z_other, .int newMany, .ref z_newUps, .ref z_newDowns, .ref z_newNumber, .ref z_found, .ref z_image, .ref z_imagePlace, .int imagePower, .int imageMany, .int imageWires]))] H → va_D A [(a_p0, .inr (4, [.int thrown, .int modes, .int products, .ref z_upsOf, .ref z_downsOf, .ref z_numberOf, .int wayKind, .ref z_rowOf, .ref z_writes, .ref z_reads, .int isImageKnown, .int madeState, .int madeSign, .ref z_matrix, .ref z_other, .int newMany, .ref z_newUps, .ref z_newDowns, .ref z_newNumber, .ref z_found, .ref z_image, .ref z_imagePlace, .int imagePower, .int imageMany, .int imageWires]))] → va_S A s.heap H locs → lv_has ls 6 [(0, .ref a_p0), (1, .int x1), (4, .int x4), (5, .int x5)] → W p l e (headSpec (Cond.code y_Mo_make prog_6_method_10_code 6 (some .boolean) :: T0) rm_Mo_make).room s m ([.ref a_p0, .int p1, .int p2, .int p3] : List Value).toArray below meth c H locs 0 0 Q (F0 m 64 ls [])), ∀ (x1 : Int32) (x5 : Int32) (s0 : Int32) (madeState : Int32) (madeSign : Int32) (H : Heap) (locs : List Loc) (ls : Array Slot), b_Mo_make_99 F k_64 x1 x5 s0 madeState madeSign = some u → va_P (dC, dI) cls [(a_p0, .inr (4, [.int thrown, .int modes, .int products, .ref z_upsOf, .ref z_downsOf, .ref z_numberOf, .int wayKind, .ref z_rowOf, .ref z_writes, .ref z_reads, .int isImageKnown, .int madeState, .int madeSign, .ref z_matrix, .ref z_other, .int newMany, .ref z_newUps, .ref z_newDowns, .ref z_newNumber, .ref z_found, .ref z_image, .ref z_imagePlace, .int imagePower, .int imageMany, .int imageWires]))] H → va_D A [(a_p0, .inr (4, [.int thrown, .int modes, .int products, .ref z_upsOf, .ref z_downsOf, .ref z_numberOf, .int wayKind, .ref z_rowOf, .ref z_writes, .ref z_reads, .int isImageKnown, .int madeState, .int madeSign, .ref z_matrix, .ref z_other, .int newMany, .ref z_newUps, .ref z_newDowns, .ref z_newNumber, .ref z_found, .ref z_image, .ref z_imagePlace, .int imagePower, .int imageMany, .int imageWires]))] → va_S A s.heap H locs → lv_has ls 6 [(0, .ref a_p0), (1, .int x1), (5, .int x5)] → W p l e (headSpec (Cond.code y_Mo_make prog_6_method_10_code 6 (some .boolean) :: T0) rm_Mo_make).room s m ([.ref a_p0, .int p1, .int p2, .int p3] : List Value).toArray below meth c H locs 0 0 Q (F0 m 99 ls [.int s0]) := by
    intro k_64 hk_64
    intro x1 x5 s0 madeState madeSign H locs ls hf hP hD hS hl
    rw [b_Mo_make_99] at hf
    refine lv_istore (lv' := [(4, .int s0), (0, .ref a_p0), (1, .int x1), (5, .int x5)]) hx hb d_Mo_make_99 hl (by decide) rfl (fun ls hl => ?_)
    exact B_101 k_64 hk_64 x1 s0 x5 madeState madeSign H locs ls hf hP hD hS (lv_sub hl [1, 2, 0, 3] rfl)
  have B_98 : ∀ (k_64 : Int32 → Int32 → Int32 → Int32 → Int32 → Option (Int32 × Int32 × Int32)) (hk_64 : ∀ (x1 : Int32) (x4 : Int32) (x5 : Int32) (madeState : Int32) (madeSign : Int32) (H : Heap) (locs : List Loc) (ls : Array Slot), k_64 x1 x4 x5 madeState madeSign = some u → va_P (dC, dI) cls [(a_p0, .inr (4, [.int thrown, .int modes, .int products, .ref z_upsOf, .ref z_downsOf, .ref z_numberOf, .int wayKind, .ref z_rowOf, .ref z_writes, .ref z_reads, .int isImageKnown, .int madeState, .int madeSign, .ref z_matrix, .ref z_other, .int newMany, .ref z_newUps, .ref z_newDowns, .ref z_newNumber, .ref z_found, .ref z_image, .ref z_imagePlace, .int imagePower, .int imageMany, .int imageWires]))] H → va_D A [(a_p0, .inr (4, [.int thrown, .int modes, .int products, .ref z_upsOf, .ref z_downsOf, .ref z_numberOf, .int wayKind, .ref z_rowOf, .ref z_writes, .ref z_reads, .int isImageKnown, .int madeState, .int madeSign, .ref z_matrix, .ref z_other, .int newMany, .ref z_newUps, .ref z_newDowns, .ref z_newNumber, .ref z_found, .ref z_image, .ref z_imagePlace, .int imagePower, .int imageMany, .int imageWires]))] → va_S A s.heap H locs → lv_has ls 6 [(0, .ref a_p0), (1, .int x1), (4, .int x4), (5, .int x5)] → W p l e (headSpec (Cond.code y_Mo_make prog_6_method_10_code 6 (some .boolean) :: T0) rm_Mo_make).room s m ([.ref a_p0, .int p1, .int p2, .int p3] : List Value).toArray below meth c H locs 0 0 Q (F0 m 64 ls [])), ∀ (x1 : Int32) (x5 : Int32) (madeState : Int32) (madeSign : Int32) (H : Heap) (locs : List Loc) (ls : Array Slot), b_Mo_make_98 F k_64 x1 x5 madeState madeSign = some u → va_P (dC, dI) cls [(a_p0, .inr (4, [.int thrown, .int modes, .int products, .ref z_upsOf, .ref z_downsOf, .ref z_numberOf, .int wayKind, .ref z_rowOf, .ref z_writes, .ref z_reads, .int isImageKnown, .int madeState, .int madeSign, .ref z_matrix, .ref z_other, .int newMany, .ref z_newUps, .ref z_newDowns, .ref z_newNumber, .ref z_found, .ref z_image, .ref z_imagePlace, .int imagePower, .int imageMany, .int imageWires]))] H → va_D A [(a_p0, .inr (4, [.int thrown, .int modes, .int products, .ref z_upsOf, .ref z_downsOf, .ref z_numberOf, .int wayKind, .ref z_rowOf, .ref z_writes, .ref z_reads, .int isImageKnown, .int madeState, .int madeSign, .ref z_matrix, .ref z_other, .int newMany, .ref z_newUps, .ref z_newDowns, .ref z_newNumber, .ref z_found, .ref z_image, .ref z_imagePlace, .int imagePower, .int imageMany, .int imageWires]))] → va_S A s.heap H locs → lv_has ls 6 [(0, .ref a_p0), (1, .int x1), (5, .int x5)] → W p l e (headSpec (Cond.code y_Mo_make prog_6_method_10_code 6 (some .boolean) :: T0) rm_Mo_make).room s m ([.ref a_p0, .int p1, .int p2, .int p3] : List Value).toArray below meth c H locs 0 0 Q (F0 m 98 ls []) := by
    intro k_64 hk_64
    intro x1 x5 madeState madeSign H locs ls hf hP hD hS hl
    rw [b_Mo_make_98] at hf
    refine lv_iconst (v := 0) hx hb d_Mo_make_98 (by decide) ?_
    exact B_99 k_64 hk_64 x1 x5 0 madeState madeSign H locs ls hf hP hD hS (lv_sub hl [0, 1, 2] rfl)
  have B_64 : ∀ (n : Nat), ∀ (x1 : Int32) (x4 : Int32) (x5 : Int32) (madeState : Int32) (madeSign : Int32) (H : Heap) (locs : List Loc) (ls : Array Slot), b_Mo_make_64 F n x1 x4 x5 madeState madeSign = some u → va_P (dC, dI) cls [(a_p0, .inr (4, [.int thrown, .int modes, .int products, .ref z_upsOf, .ref z_downsOf, .ref z_numberOf, .int wayKind, .ref z_rowOf, .ref z_writes, .ref z_reads, .int isImageKnown, .int madeState, .int madeSign, .ref z_matrix, .ref z_other, .int newMany, .ref z_newUps, .ref z_newDowns, .ref z_newNumber, .ref z_found, .ref z_image, .ref z_imagePlace, .int imagePower, .int imageMany, .int imageWires]))] H → va_D A [(a_p0, .inr (4, [.int thrown, .int modes, .int products, .ref z_upsOf, .ref z_downsOf, .ref z_numberOf, .int wayKind, .ref z_rowOf, .ref z_writes, .ref z_reads, .int isImageKnown, .int madeState, .int madeSign, .ref z_matrix, .ref z_other, .int newMany, .ref z_newUps, .ref z_newDowns, .ref z_newNumber, .ref z_found, .ref z_image, .ref z_imagePlace, .int imagePower, .int imageMany, .int imageWires]))] → va_S A s.heap H locs → lv_has ls 6 [(0, .ref a_p0), (1, .int x1), (4, .int x4), (5, .int x5)] → W p l e (headSpec (Cond.code y_Mo_make prog_6_method_10_code 6 (some .boolean) :: T0) rm_Mo_make).room s m ([.ref a_p0, .int p1, .int p2, .int p3] : List Value).toArray below meth c H locs 0 0 Q (F0 m 64 ls []) := by
    intro n
    induction n with
    | zero =>
      intro x1 x4 x5 madeState madeSign H locs ls hf hP hD hS hl
      exact no_fuel hf
    | succ n ih =>
      intro x1 x4 x5 madeState madeSign H locs ls hf hP hD hS hl
      rw [b_Mo_make_64] at hf
      refine lv_iload hx hb d_Mo_make_64 (lv_at hl 3 rfl) ?_
      refine lv_if_lt (tgt := 107) hx hb d_Mo_make_66 (by decide) (fun c_2 => ?_) (fun c_2 => ?_)
      · replace hf := if_t c_2 hf
        refine lv_iload hx hb d_Mo_make_107 (lv_at hl 2 rfl) ?_
        obtain ⟨hz_3, hf⟩ := ckB_ok hf
        have hu := Option.some.inj hf
        subst hu
        exact rw_z hQ rfl hz_3 rfl hP hD hK hS hx hb hr hlocks d_Mo_make_109
      · replace hf := if_f c_2 hf
        refine lv_iload_n hx hb d_Mo_make_69 rfl (lv_at hl 1 rfl) ?_
        refine lv_iload hx hb d_Mo_make_70 (lv_at hl 3 rfl) ?_
        refine lv_ishr hx hb d_Mo_make_72 ?_
        refine lv_iconst (v := 1) hx hb d_Mo_make_73 (by decide) ?_
        refine lv_iand hx hb d_Mo_make_74 ?_
        refine lv_iconst (v := 1) hx hb d_Mo_make_75 (by decide) ?_
        refine lv_icmp_ne (tgt := 101) hx hb d_Mo_make_76 (by decide) (fun c_4 => ?_) (fun c_4 => ?_)
        · replace hf := if_f c_4 hf
          exact B_101 (b_Mo_make_64 F n) ih x1 x4 x5 madeState madeSign H locs ls hf hP hD hS (lv_sub hl [0, 1, 2, 3] rfl)
        · replace hf := if_t c_4 hf
          refine lv_iload hx hb d_Mo_make_79 (lv_at hl 2 rfl) ?_
          refine lv_if_eq (tgt := 98) hx hb d_Mo_make_81 (by decide) (fun c_6 => ?_) (fun c_6 => ?_)
          · replace hf := if_t c_6 hf
            exact B_98 (b_Mo_make_64 F n) ih x1 x5 madeState madeSign H locs ls hf hP hD hS (lv_sub hl [0, 1, 3] rfl)
          · replace hf := if_f c_6 hf
            refine lv_aload_n hx hb d_Mo_make_84 rfl (lv_at hl 0 rfl) ?_
            refine lv_iload hx hb d_Mo_make_85 (lv_at hl 3 rfl) ?_
            refine lv_iconst (v := 1) hx hb d_Mo_make_87 (by decide) ?_
            obtain ⟨u_7, h_u_7, hf⟩ := bd hf
            refine wr_i (wr := []) (wrV_run (As := [.int x5, .int 1]) (rest := []) ⟨hx, hb, hml, hown, ht0⟩ (c_Mo_climb l dC dI cI cJ a_p0 z_upsOf z_downsOf z_numberOf z_rowOf z_writes z_reads z_matrix z_other z_newUps z_newDowns z_newNumber z_found z_image z_imagePlace H.size thrown modes products wayKind isImageKnown madeState madeSign newMany imagePower imageMany imageWires x5 1 F u_7 h_u_7) (cwV 2 ht0 (gV m_571 m_573 (T0_pr (y := ⟨"FermionMapsModel", "climb", "(IZ)Z"⟩) (i := 12) rfl rfl) m_5 m_574) rfl rfl rfl (by decide +kernel) ⟨Nat.le_of_ble_eq_true rfl, Nat.le_of_ble_eq_true rfl⟩) hK hNW hP hD [0] rfl rfl (by decide) (ci := 4) (q0 := 0) rfl rfl rfl hl.1 rfl (Nat.le_of_ble_eq_true rfl) d_Mo_make_88 ⟨Nat.zero_le _, Nat.zero_le _⟩) hP hD hS hA [0] [] rfl rfl (by decide) (by decide) (fun w1 H locs hw hP hD hS => ?_)
            obtain rfl := hw
            have hP : va_P (dC, dI) cls [(a_p0, .inr (4, [.int thrown, .int modes, .int products, .ref z_upsOf, .ref z_downsOf, .ref z_numberOf, .int wayKind, .ref z_rowOf, .ref z_writes, .ref z_reads, .int isImageKnown, .int u_7.2.1, .int u_7.2.2, .ref z_matrix, .ref z_other, .int newMany, .ref z_newUps, .ref z_newDowns, .ref z_newNumber, .ref z_found, .ref z_image, .ref z_imagePlace, .int imagePower, .int imageMany, .int imageWires]))] H := hP.sub [0] rfl
            have hD : va_D A [(a_p0, .inr (4, [.int thrown, .int modes, .int products, .ref z_upsOf, .ref z_downsOf, .ref z_numberOf, .int wayKind, .ref z_rowOf, .ref z_writes, .ref z_reads, .int isImageKnown, .int u_7.2.1, .int u_7.2.2, .ref z_matrix, .ref z_other, .int newMany, .ref z_newUps, .ref z_newDowns, .ref z_newNumber, .ref z_found, .ref z_image, .ref z_imagePlace, .int imagePower, .int imageMany, .int imageWires]))] := hD.sub [0] (by decide) rfl
            refine lv_if_eq (tgt := 98) hx hb d_Mo_make_91 (by decide) (fun c_8 => ?_) (fun c_8 => ?_)
            · replace hf := if_t c_8 hf
              exact B_98 (b_Mo_make_64 F n) ih x1 x5 u_7.2.1 u_7.2.2 H locs ls hf hP hD hS (lv_sub hl [0, 1, 3] rfl)
            · replace hf := if_f c_8 hf
              refine lv_iconst (v := 1) hx hb d_Mo_make_94 (by decide) ?_
              refine lv_goto (tgt := 99) hx hb d_Mo_make_95 (by decide) ?_
              exact B_99 (b_Mo_make_64 F n) ih x1 x5 1 u_7.2.1 u_7.2.2 H locs ls hf hP hD hS (lv_sub hl [0, 1, 3] rfl)
  have B_54 : ∀ (k_17 : Int32 → Int32 → Int32 → Int32 → Int32 → Int32 → Option (Int32 × Int32 × Int32)) (hk_17 : ∀ (x1 : Int32) (x2 : Int32) (x4 : Int32) (x5 : Int32) (madeState : Int32) (madeSign : Int32) (H : Heap) (locs : List Loc) (ls : Array Slot), k_17 x1 x2 x4 x5 madeState madeSign = some u → va_P (dC, dI) cls [(a_p0, .inr (4, [.int thrown, .int modes, .int products, .ref z_upsOf, .ref z_downsOf, .ref z_numberOf, .int wayKind, .ref z_rowOf, .ref z_writes, .ref z_reads, .int isImageKnown, .int madeState, .int madeSign, .ref z_matrix, .ref z_other, .int newMany, .ref z_newUps, .ref z_newDowns, .ref z_newNumber, .ref z_found, .ref z_image, .ref z_imagePlace, .int imagePower, .int imageMany, .int imageWires]))] H → va_D A [(a_p0, .inr (4, [.int thrown, .int modes, .int products, .ref z_upsOf, .ref z_downsOf, .ref z_numberOf, .int wayKind, .ref z_rowOf, .ref z_writes, .ref z_reads, .int isImageKnown, .int madeState, .int madeSign, .ref z_matrix, .ref z_other, .int newMany, .ref z_newUps, .ref z_newDowns, .ref z_newNumber, .ref z_found, .ref z_image, .ref z_imagePlace, .int imagePower, .int imageMany, .int imageWires]))] → va_S A s.heap H locs → lv_has ls 6 [(0, .ref a_p0), (1, .int x1), (2, .int x2), (4, .int x4), (5, .int x5)] → W p l e (headSpec (Cond.code y_Mo_make prog_6_method_10_code 6 (some .boolean) :: T0) rm_Mo_make).room s m ([.ref a_p0, .int p1, .int p2, .int p3] : List Value).toArray below meth c H locs 0 0 Q (F0 m 17 ls [])), ∀ (x1 : Int32) (x2 : Int32) (x4 : Int32) (x5 : Int32) (madeState : Int32) (madeSign : Int32) (H : Heap) (locs : List Loc) (ls : Array Slot), b_Mo_make_54 F k_17 x1 x2 x4 x5 madeState madeSign = some u → va_P (dC, dI) cls [(a_p0, .inr (4, [.int thrown, .int modes, .int products, .ref z_upsOf, .ref z_downsOf, .ref z_numberOf, .int wayKind, .ref z_rowOf, .ref z_writes, .ref z_reads, .int isImageKnown, .int madeState, .int madeSign, .ref z_matrix, .ref z_other, .int newMany, .ref z_newUps, .ref z_newDowns, .ref z_newNumber, .ref z_found, .ref z_image, .ref z_imagePlace, .int imagePower, .int imageMany, .int imageWires]))] H → va_D A [(a_p0, .inr (4, [.int thrown, .int modes, .int products, .ref z_upsOf, .ref z_downsOf, .ref z_numberOf, .int wayKind, .ref z_rowOf, .ref z_writes, .ref z_reads, .int isImageKnown, .int madeState, .int madeSign, .ref z_matrix, .ref z_other, .int newMany, .ref z_newUps, .ref z_newDowns, .ref z_newNumber, .ref z_found, .ref z_image, .ref z_imagePlace, .int imagePower, .int imageMany, .int imageWires]))] → va_S A s.heap H locs → lv_has ls 6 [(0, .ref a_p0), (1, .int x1), (2, .int x2), (4, .int x4), (5, .int x5)] → W p l e (headSpec (Cond.code y_Mo_make prog_6_method_10_code 6 (some .boolean) :: T0) rm_Mo_make).room s m ([.ref a_p0, .int p1, .int p2, .int p3] : List Value).toArray below meth c H locs 0 0 Q (F0 m 54 ls []) := by
    intro k_17 hk_17
    intro x1 x2 x4 x5 madeState madeSign H locs ls hf hP hD hS hl
    rw [b_Mo_make_54] at hf
    obtain ⟨x5_10, e_x5_10⟩ : ∃ y : Int32, y = x5 + (-1) := ⟨_, rfl⟩
    replace hf := nm_eq e_x5_10 hf
    refine lv_iinc (v := x5_10) (lv' := [(5, .int x5_10), (0, .ref a_p0), (1, .int x1), (2, .int x2), (4, .int x4)]) hx hb d_Mo_make_54 hl (k := 4) rfl (by rw [e_x5_10]; rfl) (by decide) rfl (fun ls hl => ?_)
    refine lv_goto (tgt := 17) hx hb d_Mo_make_57 (by decide) ?_
    exact hk_17 x1 x2 x4 x5_10 madeState madeSign H locs ls hf hP hD hS (lv_sub hl [1, 2, 3, 4, 0] rfl)
  have B_52 : ∀ (k_17 : Int32 → Int32 → Int32 → Int32 → Int32 → Int32 → Option (Int32 × Int32 × Int32)) (hk_17 : ∀ (x1 : Int32) (x2 : Int32) (x4 : Int32) (x5 : Int32) (madeState : Int32) (madeSign : Int32) (H : Heap) (locs : List Loc) (ls : Array Slot), k_17 x1 x2 x4 x5 madeState madeSign = some u → va_P (dC, dI) cls [(a_p0, .inr (4, [.int thrown, .int modes, .int products, .ref z_upsOf, .ref z_downsOf, .ref z_numberOf, .int wayKind, .ref z_rowOf, .ref z_writes, .ref z_reads, .int isImageKnown, .int madeState, .int madeSign, .ref z_matrix, .ref z_other, .int newMany, .ref z_newUps, .ref z_newDowns, .ref z_newNumber, .ref z_found, .ref z_image, .ref z_imagePlace, .int imagePower, .int imageMany, .int imageWires]))] H → va_D A [(a_p0, .inr (4, [.int thrown, .int modes, .int products, .ref z_upsOf, .ref z_downsOf, .ref z_numberOf, .int wayKind, .ref z_rowOf, .ref z_writes, .ref z_reads, .int isImageKnown, .int madeState, .int madeSign, .ref z_matrix, .ref z_other, .int newMany, .ref z_newUps, .ref z_newDowns, .ref z_newNumber, .ref z_found, .ref z_image, .ref z_imagePlace, .int imagePower, .int imageMany, .int imageWires]))] → va_S A s.heap H locs → lv_has ls 6 [(0, .ref a_p0), (1, .int x1), (2, .int x2), (4, .int x4), (5, .int x5)] → W p l e (headSpec (Cond.code y_Mo_make prog_6_method_10_code 6 (some .boolean) :: T0) rm_Mo_make).room s m ([.ref a_p0, .int p1, .int p2, .int p3] : List Value).toArray below meth c H locs 0 0 Q (F0 m 17 ls [])), ∀ (x1 : Int32) (x2 : Int32) (x5 : Int32) (s0 : Int32) (madeState : Int32) (madeSign : Int32) (H : Heap) (locs : List Loc) (ls : Array Slot), b_Mo_make_52 F k_17 x1 x2 x5 s0 madeState madeSign = some u → va_P (dC, dI) cls [(a_p0, .inr (4, [.int thrown, .int modes, .int products, .ref z_upsOf, .ref z_downsOf, .ref z_numberOf, .int wayKind, .ref z_rowOf, .ref z_writes, .ref z_reads, .int isImageKnown, .int madeState, .int madeSign, .ref z_matrix, .ref z_other, .int newMany, .ref z_newUps, .ref z_newDowns, .ref z_newNumber, .ref z_found, .ref z_image, .ref z_imagePlace, .int imagePower, .int imageMany, .int imageWires]))] H → va_D A [(a_p0, .inr (4, [.int thrown, .int modes, .int products, .ref z_upsOf, .ref z_downsOf, .ref z_numberOf, .int wayKind, .ref z_rowOf, .ref z_writes, .ref z_reads, .int isImageKnown, .int madeState, .int madeSign, .ref z_matrix, .ref z_other, .int newMany, .ref z_newUps, .ref z_newDowns, .ref z_newNumber, .ref z_found, .ref z_image, .ref z_imagePlace, .int imagePower, .int imageMany, .int imageWires]))] → va_S A s.heap H locs → lv_has ls 6 [(0, .ref a_p0), (1, .int x1), (2, .int x2), (5, .int x5)] → W p l e (headSpec (Cond.code y_Mo_make prog_6_method_10_code 6 (some .boolean) :: T0) rm_Mo_make).room s m ([.ref a_p0, .int p1, .int p2, .int p3] : List Value).toArray below meth c H locs 0 0 Q (F0 m 52 ls [.int s0]) := by
    intro k_17 hk_17
    intro x1 x2 x5 s0 madeState madeSign H locs ls hf hP hD hS hl
    rw [b_Mo_make_52] at hf
    refine lv_istore (lv' := [(4, .int s0), (0, .ref a_p0), (1, .int x1), (2, .int x2), (5, .int x5)]) hx hb d_Mo_make_52 hl (by decide) rfl (fun ls hl => ?_)
    exact B_54 k_17 hk_17 x1 x2 s0 x5 madeState madeSign H locs ls hf hP hD hS (lv_sub hl [1, 2, 3, 0, 4] rfl)
  have B_51 : ∀ (k_17 : Int32 → Int32 → Int32 → Int32 → Int32 → Int32 → Option (Int32 × Int32 × Int32)) (hk_17 : ∀ (x1 : Int32) (x2 : Int32) (x4 : Int32) (x5 : Int32) (madeState : Int32) (madeSign : Int32) (H : Heap) (locs : List Loc) (ls : Array Slot), k_17 x1 x2 x4 x5 madeState madeSign = some u → va_P (dC, dI) cls [(a_p0, .inr (4, [.int thrown, .int modes, .int products, .ref z_upsOf, .ref z_downsOf, .ref z_numberOf, .int wayKind, .ref z_rowOf, .ref z_writes, .ref z_reads, .int isImageKnown, .int madeState, .int madeSign, .ref z_matrix, .ref z_other, .int newMany, .ref z_newUps, .ref z_newDowns, .ref z_newNumber, .ref z_found, .ref z_image, .ref z_imagePlace, .int imagePower, .int imageMany, .int imageWires]))] H → va_D A [(a_p0, .inr (4, [.int thrown, .int modes, .int products, .ref z_upsOf, .ref z_downsOf, .ref z_numberOf, .int wayKind, .ref z_rowOf, .ref z_writes, .ref z_reads, .int isImageKnown, .int madeState, .int madeSign, .ref z_matrix, .ref z_other, .int newMany, .ref z_newUps, .ref z_newDowns, .ref z_newNumber, .ref z_found, .ref z_image, .ref z_imagePlace, .int imagePower, .int imageMany, .int imageWires]))] → va_S A s.heap H locs → lv_has ls 6 [(0, .ref a_p0), (1, .int x1), (2, .int x2), (4, .int x4), (5, .int x5)] → W p l e (headSpec (Cond.code y_Mo_make prog_6_method_10_code 6 (some .boolean) :: T0) rm_Mo_make).room s m ([.ref a_p0, .int p1, .int p2, .int p3] : List Value).toArray below meth c H locs 0 0 Q (F0 m 17 ls [])), ∀ (x1 : Int32) (x2 : Int32) (x5 : Int32) (madeState : Int32) (madeSign : Int32) (H : Heap) (locs : List Loc) (ls : Array Slot), b_Mo_make_51 F k_17 x1 x2 x5 madeState madeSign = some u → va_P (dC, dI) cls [(a_p0, .inr (4, [.int thrown, .int modes, .int products, .ref z_upsOf, .ref z_downsOf, .ref z_numberOf, .int wayKind, .ref z_rowOf, .ref z_writes, .ref z_reads, .int isImageKnown, .int madeState, .int madeSign, .ref z_matrix, .ref z_other, .int newMany, .ref z_newUps, .ref z_newDowns, .ref z_newNumber, .ref z_found, .ref z_image, .ref z_imagePlace, .int imagePower, .int imageMany, .int imageWires]))] H → va_D A [(a_p0, .inr (4, [.int thrown, .int modes, .int products, .ref z_upsOf, .ref z_downsOf, .ref z_numberOf, .int wayKind, .ref z_rowOf, .ref z_writes, .ref z_reads, .int isImageKnown, .int madeState, .int madeSign, .ref z_matrix, .ref z_other, .int newMany, .ref z_newUps, .ref z_newDowns, .ref z_newNumber, .ref z_found, .ref z_image, .ref z_imagePlace, .int imagePower, .int imageMany, .int imageWires]))] → va_S A s.heap H locs → lv_has ls 6 [(0, .ref a_p0), (1, .int x1), (2, .int x2), (5, .int x5)] → W p l e (headSpec (Cond.code y_Mo_make prog_6_method_10_code 6 (some .boolean) :: T0) rm_Mo_make).room s m ([.ref a_p0, .int p1, .int p2, .int p3] : List Value).toArray below meth c H locs 0 0 Q (F0 m 51 ls []) := by
    intro k_17 hk_17
    intro x1 x2 x5 madeState madeSign H locs ls hf hP hD hS hl
    rw [b_Mo_make_51] at hf
    refine lv_iconst (v := 0) hx hb d_Mo_make_51 (by decide) ?_
    exact B_52 k_17 hk_17 x1 x2 x5 0 madeState madeSign H locs ls hf hP hD hS (lv_sub hl [0, 1, 2, 3] rfl)
  have B_17 : ∀ (n : Nat), ∀ (x1 : Int32) (x2 : Int32) (x4 : Int32) (x5 : Int32) (madeState : Int32) (madeSign : Int32) (H : Heap) (locs : List Loc) (ls : Array Slot), b_Mo_make_17 F n x1 x2 x4 x5 madeState madeSign = some u → va_P (dC, dI) cls [(a_p0, .inr (4, [.int thrown, .int modes, .int products, .ref z_upsOf, .ref z_downsOf, .ref z_numberOf, .int wayKind, .ref z_rowOf, .ref z_writes, .ref z_reads, .int isImageKnown, .int madeState, .int madeSign, .ref z_matrix, .ref z_other, .int newMany, .ref z_newUps, .ref z_newDowns, .ref z_newNumber, .ref z_found, .ref z_image, .ref z_imagePlace, .int imagePower, .int imageMany, .int imageWires]))] H → va_D A [(a_p0, .inr (4, [.int thrown, .int modes, .int products, .ref z_upsOf, .ref z_downsOf, .ref z_numberOf, .int wayKind, .ref z_rowOf, .ref z_writes, .ref z_reads, .int isImageKnown, .int madeState, .int madeSign, .ref z_matrix, .ref z_other, .int newMany, .ref z_newUps, .ref z_newDowns, .ref z_newNumber, .ref z_found, .ref z_image, .ref z_imagePlace, .int imagePower, .int imageMany, .int imageWires]))] → va_S A s.heap H locs → lv_has ls 6 [(0, .ref a_p0), (1, .int x1), (2, .int x2), (4, .int x4), (5, .int x5)] → W p l e (headSpec (Cond.code y_Mo_make prog_6_method_10_code 6 (some .boolean) :: T0) rm_Mo_make).room s m ([.ref a_p0, .int p1, .int p2, .int p3] : List Value).toArray below meth c H locs 0 0 Q (F0 m 17 ls []) := by
    intro n
    induction n with
    | zero =>
      intro x1 x2 x4 x5 madeState madeSign H locs ls hf hP hD hS hl
      exact no_fuel hf
    | succ n ih =>
      intro x1 x2 x4 x5 madeState madeSign H locs ls hf hP hD hS hl
      rw [b_Mo_make_17] at hf
      refine lv_iload hx hb d_Mo_make_17 (lv_at hl 4 rfl) ?_
      refine lv_if_lt (tgt := 60) hx hb d_Mo_make_19 (by decide) (fun c_1 => ?_) (fun c_1 => ?_)
      · replace hf := if_t c_1 hf
        refine lv_bipush (v := 7) hx hb d_Mo_make_60 (by decide) ?_
        refine lv_istore (lv' := [(5, .int 7), (0, .ref a_p0), (1, .int x1), (2, .int x2), (4, .int x4)]) hx hb d_Mo_make_62 hl (by decide) rfl (fun ls hl => ?_)
        exact B_64 F x1 x4 7 madeState madeSign H locs ls hf hP hD hS (lv_sub hl [1, 2, 4, 0] rfl)
      · replace hf := if_f c_1 hf
        refine lv_iload_n hx hb d_Mo_make_22 rfl (lv_at hl 2 rfl) ?_
        refine lv_iload hx hb d_Mo_make_23 (lv_at hl 4 rfl) ?_
        refine lv_ishr hx hb d_Mo_make_25 ?_
        refine lv_iconst (v := 1) hx hb d_Mo_make_26 (by decide) ?_
        refine lv_iand hx hb d_Mo_make_27 ?_
        refine lv_iconst (v := 1) hx hb d_Mo_make_28 (by decide) ?_
        refine lv_icmp_ne (tgt := 54) hx hb d_Mo_make_29 (by decide) (fun c_9 => ?_) (fun c_9 => ?_)
        · replace hf := if_f c_9 hf
          exact B_54 (b_Mo_make_17 F n) ih x1 x2 x4 x5 madeState madeSign H locs ls hf hP hD hS (lv_sub hl [0, 1, 2, 3, 4] rfl)
        · replace hf := if_t c_9 hf
          refine lv_iload hx hb d_Mo_make_32 (lv_at hl 3 rfl) ?_
          refine lv_if_eq (tgt := 51) hx hb d_Mo_make_34 (by decide) (fun c_11 => ?_) (fun c_11 => ?_)
          · replace hf := if_t c_11 hf
            exact B_51 (b_Mo_make_17 F n) ih x1 x2 x5 madeState madeSign H locs ls hf hP hD hS (lv_sub hl [0, 1, 2, 4] rfl)
          · replace hf := if_f c_11 hf
            refine lv_aload_n hx hb d_Mo_make_37 rfl (lv_at hl 0 rfl) ?_
            refine lv_iload hx hb d_Mo_make_38 (lv_at hl 4 rfl) ?_
            refine lv_iconst (v := 0) hx hb d_Mo_make_40 (by decide) ?_
            obtain ⟨u_12, h_u_12, hf⟩ := bd hf
            refine wr_i (wr := []) (wrV_run (As := [.int x5, .int 0]) (rest := []) ⟨hx, hb, hml, hown, ht0⟩ (c_Mo_climb l dC dI cI cJ a_p0 z_upsOf z_downsOf z_numberOf z_rowOf z_writes z_reads z_matrix z_other z_newUps z_newDowns z_newNumber z_found z_image z_imagePlace H.size thrown modes products wayKind isImageKnown madeState madeSign newMany imagePower imageMany imageWires x5 0 F u_12 h_u_12) (cwV 2 ht0 (gV m_571 m_573 (T0_pr (y := ⟨"FermionMapsModel", "climb", "(IZ)Z"⟩) (i := 12) rfl rfl) m_5 m_574) rfl rfl rfl (by decide +kernel) ⟨Nat.le_of_ble_eq_true rfl, Nat.le_of_ble_eq_true rfl⟩) hK hNW hP hD [0] rfl rfl (by decide) (ci := 4) (q0 := 0) rfl rfl rfl hl.1 rfl (Nat.le_of_ble_eq_true rfl) d_Mo_make_41 ⟨Nat.zero_le _, Nat.zero_le _⟩) hP hD hS hA [0] [] rfl rfl (by decide) (by decide) (fun w1 H locs hw hP hD hS => ?_)
            obtain rfl := hw
            have hP : va_P (dC, dI) cls [(a_p0, .inr (4, [.int thrown, .int modes, .int products, .ref z_upsOf, .ref z_downsOf, .ref z_numberOf, .int wayKind, .ref z_rowOf, .ref z_writes, .ref z_reads, .int isImageKnown, .int u_12.2.1, .int u_12.2.2, .ref z_matrix, .ref z_other, .int newMany, .ref z_newUps, .ref z_newDowns, .ref z_newNumber, .ref z_found, .ref z_image, .ref z_imagePlace, .int imagePower, .int imageMany, .int imageWires]))] H := hP.sub [0] rfl
            have hD : va_D A [(a_p0, .inr (4, [.int thrown, .int modes, .int products, .ref z_upsOf, .ref z_downsOf, .ref z_numberOf, .int wayKind, .ref z_rowOf, .ref z_writes, .ref z_reads, .int isImageKnown, .int u_12.2.1, .int u_12.2.2, .ref z_matrix, .ref z_other, .int newMany, .ref z_newUps, .ref z_newDowns, .ref z_newNumber, .ref z_found, .ref z_image, .ref z_imagePlace, .int imagePower, .int imageMany, .int imageWires]))] := hD.sub [0] (by decide) rfl
            refine lv_if_eq (tgt := 51) hx hb d_Mo_make_44 (by decide) (fun c_13 => ?_) (fun c_13 => ?_)
            · replace hf := if_t c_13 hf
              exact B_51 (b_Mo_make_17 F n) ih x1 x2 x5 u_12.2.1 u_12.2.2 H locs ls hf hP hD hS (lv_sub hl [0, 1, 2, 4] rfl)
            · replace hf := if_f c_13 hf
              refine lv_iconst (v := 1) hx hb d_Mo_make_47 (by decide) ?_
              refine lv_goto (tgt := 52) hx hb d_Mo_make_48 (by decide) ?_
              exact B_52 (b_Mo_make_17 F n) ih x1 x2 x5 1 u_12.2.1 u_12.2.2 H locs ls hf hP hD hS (lv_sub hl [0, 1, 2, 4] rfl)
  rw [f_Mo_make] at hf
  refine lv_aload_n hx hb d_Mo_make_0 rfl (lv_at hl 0 rfl) ?_
  refine lv_iload_n hx hb d_Mo_make_1 rfl (lv_at hl 3 rfl) ?_
  refine va_put (D := (dC, dI)) (ci := 4) (v := .int p3) (ty := .int) (C := "FermionMapsModel") (T := F_Mo) (N := 25) hx hb ht0 i_Mo t_Mo t_Mo_ok n_Mo hown hK hP hD hS 0 rfl rfl 11 (by decide) (ht0 _ m_468) (fun _ h9 => h9) rfl (by decide +kernel) rfl rfl (Nat.le_of_ble_eq_true rfl) d_Mo_make_2 (fun H locs hP hD hS => ?_)
  have hP : va_P (dC, dI) cls [(a_p0, .inr (4, [.int thrown, .int modes, .int products, .ref z_upsOf, .ref z_downsOf, .ref z_numberOf, .int wayKind, .ref z_rowOf, .ref z_writes, .ref z_reads, .int isImageKnown, .int p3, .int madeSign, .ref z_matrix, .ref z_other, .int newMany, .ref z_newUps, .ref z_newDowns, .ref z_newNumber, .ref z_found, .ref z_image, .ref z_imagePlace, .int imagePower, .int imageMany, .int imageWires]))] H := hP
  have hD : va_D A [(a_p0, .inr (4, [.int thrown, .int modes, .int products, .ref z_upsOf, .ref z_downsOf, .ref z_numberOf, .int wayKind, .ref z_rowOf, .ref z_writes, .ref z_reads, .int isImageKnown, .int p3, .int madeSign, .ref z_matrix, .ref z_other, .int newMany, .ref z_newUps, .ref z_newDowns, .ref z_newNumber, .ref z_found, .ref z_image, .ref z_imagePlace, .int imagePower, .int imageMany, .int imageWires]))] := hD
  refine lv_aload_n hx hb d_Mo_make_5 rfl (lv_at hl 0 rfl) ?_
  refine lv_iconst (v := 1) hx hb d_Mo_make_6 (by decide) ?_
  refine va_put (D := (dC, dI)) (ci := 4) (v := .int 1) (ty := .int) (C := "FermionMapsModel") (T := F_Mo) (N := 25) hx hb ht0 i_Mo t_Mo t_Mo_ok n_Mo hown hK hP hD hS 0 rfl rfl 12 (by decide) (ht0 _ m_469) (fun _ h9 => h9) rfl (by decide +kernel) rfl rfl (Nat.le_of_ble_eq_true rfl) d_Mo_make_7 (fun H locs hP hD hS => ?_)
  have hP : va_P (dC, dI) cls [(a_p0, .inr (4, [.int thrown, .int modes, .int products, .ref z_upsOf, .ref z_downsOf, .ref z_numberOf, .int wayKind, .ref z_rowOf, .ref z_writes, .ref z_reads, .int isImageKnown, .int p3, .int 1, .ref z_matrix, .ref z_other, .int newMany, .ref z_newUps, .ref z_newDowns, .ref z_newNumber, .ref z_found, .ref z_image, .ref z_imagePlace, .int imagePower, .int imageMany, .int imageWires]))] H := hP
  have hD : va_D A [(a_p0, .inr (4, [.int thrown, .int modes, .int products, .ref z_upsOf, .ref z_downsOf, .ref z_numberOf, .int wayKind, .ref z_rowOf, .ref z_writes, .ref z_reads, .int isImageKnown, .int p3, .int 1, .ref z_matrix, .ref z_other, .int newMany, .ref z_newUps, .ref z_newDowns, .ref z_newNumber, .ref z_found, .ref z_image, .ref z_imagePlace, .int imagePower, .int imageMany, .int imageWires]))] := hD
  refine lv_iconst (v := 1) hx hb d_Mo_make_10 (by decide) ?_
  refine lv_istore (lv' := [(4, .int 1), (0, .ref a_p0), (1, .int p1), (2, .int p2), (3, .int p3)]) hx hb d_Mo_make_11 hl (by decide) rfl (fun ls hl => ?_)
  refine lv_bipush (v := 7) hx hb d_Mo_make_13 (by decide) ?_
  refine lv_istore (lv' := [(5, .int 7), (4, .int 1), (0, .ref a_p0), (1, .int p1), (2, .int p2), (3, .int p3)]) hx hb d_Mo_make_15 hl (by decide) rfl (fun ls hl => ?_)
  exact B_17 F p1 p2 1 7 p3 1 H locs ls hf hP hD hS (lv_sub hl [2, 3, 4, 1, 0] rfl)

/-! FermionMapsModel.makes(II)J -/
def b_Mo_makes_21 (F : Nat) (modes : Int32) (products : Int32) (upsOf : Nat → Int32) (downsOf : Nat → Int32) (numberOf : Nat → Int64) (thrown : Int32) (madeState : Int32) (madeSign : Int32) : Option (Int64 × Int32 × Int32 × Int32) :=
  (f_Mo_raise F thrown).bind fun u_3 =>
  some ((u_3.1.toInt64), u_3.2, madeState, madeSign)
def b_Mo_makes_87 (F : Nat) (k_32 : Int32 → Int32 → Int64 → Int32 → Int32 → Int32 → Int32 → Option (Int64 × Int32 × Int32 × Int32)) (modes : Int32) (products : Int32) (upsOf : Nat → Int32) (downsOf : Nat → Int32) (numberOf : Nat → Int64) (x1 : Int32) (x2 : Int32) (x3 : Int64) (x5 : Int32) (thrown : Int32) (madeState : Int32) (madeSign : Int32) : Option (Int64 × Int32 × Int32 × Int32) :=
  nm (x5 + 1 : Int32) fun x5_11 =>
  k_32 x1 x2 x3 x5_11 thrown madeState madeSign
def b_Mo_makes_32 (F : Nat) (modes : Int32) (products : Int32) (upsOf : Nat → Int32) (downsOf : Nat → Int32) (numberOf : Nat → Int64) : Nat → Int32 → Int32 → Int64 → Int32 → Int32 → Int32 → Int32 → Option (Int64 × Int32 × Int32 × Int32)
  | 0, _, _, _, _, _, _, _ => none
  | n + 1, x1, x2, x3, x5, thrown, madeState, madeSign =>
    if products ≤ x5 then
      some (x3, thrown, madeState, madeSign)
    else
      ckI x5 60 <|
      ckI x5 60 <|
      (f_Mo_make F madeState madeSign (upsOf x5.toNatClampNeg) (downsOf x5.toNatClampNeg) x1).bind fun u_9 =>
      if u_9.1 = 0 then
        b_Mo_makes_87 F (b_Mo_makes_32 F modes products upsOf downsOf numberOf n) modes products upsOf downsOf numberOf x1 x2 x3 x5 thrown u_9.2.1 u_9.2.2
      else
        if u_9.2.1 = x2 then
          ckI x5 60 <|
          nm ((x3 + ((u_9.2.2.toInt64) * (numberOf x5.toNatClampNeg))) : Int64) fun x3_14 =>
          b_Mo_makes_87 F (b_Mo_makes_32 F modes products upsOf downsOf numberOf n) modes products upsOf downsOf numberOf x1 x2 x3_14 x5 thrown u_9.2.1 u_9.2.2
        else
          b_Mo_makes_87 F (b_Mo_makes_32 F modes products upsOf downsOf numberOf n) modes products upsOf downsOf numberOf x1 x2 x3 x5 thrown u_9.2.1 u_9.2.2
def f_Mo_makes (F : Nat) (thrown : Int32) (modes : Int32) (products : Int32) (madeState : Int32) (madeSign : Int32) (upsOf : Nat → Int32) (downsOf : Nat → Int32) (numberOf : Nat → Int64) (p1 : Int32) (p2 : Int32) : Option (Int64 × Int32 × Int32 × Int32) :=
  (f_Mo_isState F modes p1).bind fun u_1 =>
  if u_1 = 0 then
    b_Mo_makes_21 F modes products upsOf downsOf numberOf 0 madeState madeSign
  else
    (f_Mo_isState F modes p2).bind fun u_4 =>
    if u_4 = 0 then
      b_Mo_makes_21 F modes products upsOf downsOf numberOf 0 madeState madeSign
    else
      b_Mo_makes_32 F modes products upsOf downsOf numberOf F p1 p2 0 0 0 madeState madeSign
abbrev rm_Mo_makes : Room := { frames := 3, cells := 0, slots := 0, locals := 69 }
set_option maxHeartbeats 4000000 in
set_option maxRecDepth 100000 in
theorem c_Mo_makes (l : Launch) (dC : Nat → ClassId) (dI : Nat → Nat → Nat) (cI cJ : ClassId) (a_p0 a_upsOf a_downsOf a_numberOf z_rowOf z_writes z_reads z_matrix z_other z_newUps z_newDowns z_newNumber z_found z_image z_imagePlace : Nat) (sz : Nat) (thrown : Int32) (modes : Int32) (products : Int32) (wayKind : Int32) (isImageKnown : Int32) (madeState : Int32) (madeSign : Int32) (newMany : Int32) (imagePower : Int32) (imageMany : Int32) (imageWires : Int32) (upsOf : Nat → Int32) (downsOf : Nat → Int32) (numberOf : Nat → Int64) (p1 : Int32) (p2 : Int32) (F : Nat) (u : Int64 × Int32 × Int32 × Int32) (hf : f_Mo_makes F thrown modes products madeState madeSign upsOf downsOf numberOf p1 p2 = some u) : Met l y_Mo_makes (Cond.code y_Mo_makes prog_6_method_20_code 6 (some .long) :: T0) rm_Mo_makes (va_Pc [.ref a_p0, .int p1, .int p2] (Ww (dC, dI) [(a_p0, .inr (4, [.int thrown, .int modes, .int products, .ref a_upsOf, .ref a_downsOf, .ref a_numberOf, .int wayKind, .ref z_rowOf, .ref z_writes, .ref z_reads, .int isImageKnown, .int madeState, .int madeSign, .ref z_matrix, .ref z_other, .int newMany, .ref z_newUps, .ref z_newDowns, .ref z_newNumber, .ref z_found, .ref z_image, .ref z_imagePlace, .int imagePower, .int imageMany, .int imageWires])), (a_upsOf, .inl (cI, 60, .inl upsOf)), (a_downsOf, .inl (cI, 60, .inl downsOf)), (a_numberOf, .inl (cJ, 60, .inr (.inl numberOf)))] [(cI, .int), (cJ, .long)] sz)) (va_Ql (fun r (_ : Unit) => r = u.1) (Bw (dC, dI) [(cI, .int), (cJ, .long)] (va_A [(a_p0, .inr (4, [.int thrown, .int modes, .int products, .ref a_upsOf, .ref a_downsOf, .ref a_numberOf, .int wayKind, .ref z_rowOf, .ref z_writes, .ref z_reads, .int isImageKnown, .int madeState, .int madeSign, .ref z_matrix, .ref z_other, .int newMany, .ref z_newUps, .ref z_newDowns, .ref z_newNumber, .ref z_found, .ref z_image, .ref z_imagePlace, .int imagePower, .int imageMany, .int imageWires])), (a_upsOf, .inl (cI, 60, .inl upsOf)), (a_downsOf, .inl (cI, 60, .inl downsOf)), (a_numberOf, .inl (cJ, 60, .inr (.inl numberOf)))] sz) (fun w1 => w1 = [(a_p0, .inr (4, [.int u.2.1, .int modes, .int products, .ref a_upsOf, .ref a_downsOf, .ref a_numberOf, .int wayKind, .ref z_rowOf, .ref z_writes, .ref z_reads, .int isImageKnown, .int u.2.2.1, .int u.2.2.2, .ref z_matrix, .ref z_other, .int newMany, .ref z_newUps, .ref z_newDowns, .ref z_newNumber, .ref z_found, .ref z_image, .ref z_imagePlace, .int imagePower, .int imageMany, .int imageWires])), (a_upsOf, .inl (cI, 60, .inl upsOf)), (a_downsOf, .inl (cI, 60, .inl downsOf)), (a_numberOf, .inl (cJ, 60, .inr (.inl numberOf)))])) (va_A [(a_p0, .inr (4, [.int thrown, .int modes, .int products, .ref a_upsOf, .ref a_downsOf, .ref a_numberOf, .int wayKind, .ref z_rowOf, .ref z_writes, .ref z_reads, .int isImageKnown, .int madeState, .int madeSign, .ref z_matrix, .ref z_other, .int newMany, .ref z_newUps, .ref z_newDowns, .ref z_newNumber, .ref z_found, .ref z_image, .ref z_imagePlace, .int imagePower, .int imageMany, .int imageWires])), (a_upsOf, .inl (cI, 60, .inl upsOf)), (a_downsOf, .inl (cI, 60, .inl downsOf)), (a_numberOf, .inl (cJ, 60, .inr (.inl numberOf)))] sz)) 0 0 (va_A [(a_p0, .inr (4, [.int thrown, .int modes, .int products, .ref a_upsOf, .ref a_downsOf, .ref a_numberOf, .int wayKind, .ref z_rowOf, .ref z_writes, .ref z_reads, .int isImageKnown, .int madeState, .int madeSign, .ref z_matrix, .ref z_other, .int newMany, .ref z_newUps, .ref z_newDowns, .ref z_newNumber, .ref z_found, .ref z_image, .ref z_imagePlace, .int imagePower, .int imageMany, .int imageWires])), (a_upsOf, .inl (cI, 60, .inl upsOf)), (a_downsOf, .inl (cI, 60, .inl downsOf)), (a_numberOf, .inl (cJ, 60, .inr (.inl numberOf)))] sz) := by
  refine Met.ofW (cc := prog_6_method_20_code) (maxL := 6) (ret := (some .long)) (by decide) rfl ?_
  intro p e s m args below meth c s₁ B hml hv
  obtain ⟨rfl, hsz, hP, hK, hD0, hNW⟩ := hv
  have hx := B.exec
  have hb := B.bytes
  have hr := B.returns
  have hts := atoms_spec (ws := Cond.code y_Mo_makes prog_6_method_20_code 6 (some .long) :: T0) B.pre
  have ht0 : ∀ w ∈ T0, w.before ([.ref a_p0, .int p1, .int p2] : List Value).toArray s = true := fun w h => hts w (List.mem_cons_of_mem _ h)
  have hown : s.vm.findClass "FermionMapsModel" = some m.cls := findClass_of_methodNamed B.named
  have hlocks := B.notSynchronized
  subst hsz
  have hD := hD0.self (sz := s.heap.size)
  generalize hAe : va_A [(a_p0, .inr (4, [.int thrown, .int modes, .int products, .ref a_upsOf, .ref a_downsOf, .ref a_numberOf, .int wayKind, .ref z_rowOf, .ref z_writes, .ref z_reads, .int isImageKnown, .int madeState, .int madeSign, .ref z_matrix, .ref z_other, .int newMany, .ref z_newUps, .ref z_newDowns, .ref z_newNumber, .ref z_found, .ref z_image, .ref z_imagePlace, .int imagePower, .int imageMany, .int imageWires])), (a_upsOf, .inl (cI, 60, .inl upsOf)), (a_downsOf, .inl (cI, 60, .inl downsOf)), (a_numberOf, .inl (cJ, 60, .inr (.inl numberOf)))] s.heap.size = A at hD ⊢
  have hA : ∀ q : Nat, s.heap.size ≤ q → A q := fun q h => by rw [← hAe]; exact Or.inr h
  have hS : va_S A s.heap s.heap [] := va_S.rf
  have hl := lv_entry ([.ref a_p0, .int p1, .int p2]) (n := 6) (Nat.le_of_ble_eq_true rfl)
  rw [lg_entry_eq]
  generalize (lg_sl ([.ref a_p0, .int p1, .int p2]) ++ List.replicate (6 - (lg_sl ([.ref a_p0, .int p1, .int p2])).length) Slot.unset).toArray = ls at hl ⊢
  have hl : lv_has ls 6 [(0, .ref a_p0), (1, .int p1), (2, .int p2)] := hl
  refine W.nameQ (fun Q hQ => ?_)
  have B_21 : ∀ (thrown : Int32) (madeState : Int32) (madeSign : Int32) (H : Heap) (locs : List Loc) (ls : Array Slot), b_Mo_makes_21 F modes products upsOf downsOf numberOf thrown madeState madeSign = some u → va_P (dC, dI) cls [(a_p0, .inr (4, [.int thrown, .int modes, .int products, .ref a_upsOf, .ref a_downsOf, .ref a_numberOf, .int wayKind, .ref z_rowOf, .ref z_writes, .ref z_reads, .int isImageKnown, .int madeState, .int madeSign, .ref z_matrix, .ref z_other, .int newMany, .ref z_newUps, .ref z_newDowns, .ref z_newNumber, .ref z_found, .ref z_image, .ref z_imagePlace, .int imagePower, .int imageMany, .int imageWires])), (a_upsOf, .inl (cI, 60, .inl upsOf)), (a_downsOf, .inl (cI, 60, .inl downsOf)), (a_numberOf, .inl (cJ, 60, .inr (.inl numberOf)))] H → va_D A [(a_p0, .inr (4, [.int thrown, .int modes, .int products, .ref a_upsOf, .ref a_downsOf, .ref a_numberOf, .int wayKind, .ref z_rowOf, .ref z_writes, .ref z_reads, .int isImageKnown, .int madeState, .int madeSign, .ref z_matrix, .ref z_other, .int newMany, .ref z_newUps, .ref z_newDowns, .ref z_newNumber, .ref z_found, .ref z_image, .ref z_imagePlace, .int imagePower, .int imageMany, .int imageWires])), (a_upsOf, .inl (cI, 60, .inl upsOf)), (a_downsOf, .inl (cI, 60, .inl downsOf)), (a_numberOf, .inl (cJ, 60, .inr (.inl numberOf)))] → va_S A s.heap H locs → lv_has ls 6 [(0, .ref a_p0)] → W p l e (headSpec (Cond.code y_Mo_makes prog_6_method_20_code 6 (some .long) :: T0) rm_Mo_makes).room s m ([.ref a_p0, .int p1, .int p2] : List Value).toArray below meth c H locs 0 0 Q (F0 m 21 ls []) := by
    intro thrown madeState madeSign H locs ls hf hP hD hS hl
    rw [b_Mo_makes_21] at hf
    refine lv_aload_n hx hb d_Mo_makes_21 rfl (lv_at hl 0 rfl) ?_
    obtain ⟨u_3, h_u_3, hf⟩ := bd hf
    refine wr_i (wr := [(a_upsOf, .inl (cI, 60, .inl upsOf)), (a_downsOf, .inl (cI, 60, .inl downsOf)), (a_numberOf, .inl (cJ, 60, .inr (.inl numberOf)))]) (wrV_run (As := []) (rest := []) ⟨hx, hb, hml, hown, ht0⟩ (c_Mo_raise l dC dI cI cJ a_p0 a_upsOf a_downsOf a_numberOf z_rowOf z_writes z_reads z_matrix z_other z_newUps z_newDowns z_newNumber z_found z_image z_imagePlace H.size thrown modes products wayKind isImageKnown madeState madeSign newMany imagePower imageMany imageWires F u_3 h_u_3) (cwV 0 ht0 (gV m_591 m_593 (T0_pr (y := ⟨"FermionMapsModel", "raise", "()I"⟩) (i := 15) rfl rfl) m_5 m_594) rfl rfl rfl (by decide +kernel) ⟨Nat.le_of_ble_eq_true rfl, Nat.le_of_ble_eq_true rfl⟩) hK hNW hP hD [0] rfl rfl (by decide) (ci := 4) (q0 := 0) rfl rfl rfl hl.1 rfl (Nat.le_of_ble_eq_true rfl) d_Mo_makes_22 ⟨Nat.zero_le _, Nat.zero_le _⟩) hP hD hS hA [0] [1, 2, 3] rfl rfl (by decide) (by decide) (fun w1 H locs hw hP hD hS => ?_)
    obtain rfl := hw
    have hP : va_P (dC, dI) cls [(a_p0, .inr (4, [.int u_3.2, .int modes, .int products, .ref a_upsOf, .ref a_downsOf, .ref a_numberOf, .int wayKind, .ref z_rowOf, .ref z_writes, .ref z_reads, .int isImageKnown, .int madeState, .int madeSign, .ref z_matrix, .ref z_other, .int newMany, .ref z_newUps, .ref z_newDowns, .ref z_newNumber, .ref z_found, .ref z_image, .ref z_imagePlace, .int imagePower, .int imageMany, .int imageWires])), (a_upsOf, .inl (cI, 60, .inl upsOf)), (a_downsOf, .inl (cI, 60, .inl downsOf)), (a_numberOf, .inl (cJ, 60, .inr (.inl numberOf)))] H := hP.sub [3, 0, 1, 2] rfl
    have hD : va_D A [(a_p0, .inr (4, [.int u_3.2, .int modes, .int products, .ref a_upsOf, .ref a_downsOf, .ref a_numberOf, .int wayKind, .ref z_rowOf, .ref z_writes, .ref z_reads, .int isImageKnown, .int madeState, .int madeSign, .ref z_matrix, .ref z_other, .int newMany, .ref z_newUps, .ref z_newDowns, .ref z_newNumber, .ref z_found, .ref z_image, .ref z_imagePlace, .int imagePower, .int imageMany, .int imageWires])), (a_upsOf, .inl (cI, 60, .inl upsOf)), (a_downsOf, .inl (cI, 60, .inl downsOf)), (a_numberOf, .inl (cJ, 60, .inr (.inl numberOf)))] := hD.sub [3, 0, 1, 2] (by decide) rfl
    refine lv_i2l (v := u_3.1.toInt64) hx hb d_Mo_makes_25 rfl ?_
    have hu := Option.some.inj hf
    subst hu
    exact rw_l hQ rfl rfl hP hD hK hS hx hb hr hlocks d_Mo_makes_26
  have B_87 : ∀ (k_32 : Int32 → Int32 → Int64 → Int32 → Int32 → Int32 → Int32 → Option (Int64 × Int32 × Int32 × Int32)) (hk_32 : ∀ (x1 : Int32) (x2 : Int32) (x3 : Int64) (x5 : Int32) (thrown : Int32) (madeState : Int32) (madeSign : Int32) (H : Heap) (locs : List Loc) (ls : Array Slot), k_32 x1 x2 x3 x5 thrown madeState madeSign = some u → va_P (dC, dI) cls [(a_p0, .inr (4, [.int thrown, .int modes, .int products, .ref a_upsOf, .ref a_downsOf, .ref a_numberOf, .int wayKind, .ref z_rowOf, .ref z_writes, .ref z_reads, .int isImageKnown, .int madeState, .int madeSign, .ref z_matrix, .ref z_other, .int newMany, .ref z_newUps, .ref z_newDowns, .ref z_newNumber, .ref z_found, .ref z_image, .ref z_imagePlace, .int imagePower, .int imageMany, .int imageWires])), (a_upsOf, .inl (cI, 60, .inl upsOf)), (a_downsOf, .inl (cI, 60, .inl downsOf)), (a_numberOf, .inl (cJ, 60, .inr (.inl numberOf)))] H → va_D A [(a_p0, .inr (4, [.int thrown, .int modes, .int products, .ref a_upsOf, .ref a_downsOf, .ref a_numberOf, .int wayKind, .ref z_rowOf, .ref z_writes, .ref z_reads, .int isImageKnown, .int madeState, .int madeSign, .ref z_matrix, .ref z_other, .int newMany, .ref z_newUps, .ref z_newDowns, .ref z_newNumber, .ref z_found, .ref z_image, .ref z_imagePlace, .int imagePower, .int imageMany, .int imageWires])), (a_upsOf, .inl (cI, 60, .inl upsOf)), (a_downsOf, .inl (cI, 60, .inl downsOf)), (a_numberOf, .inl (cJ, 60, .inr (.inl numberOf)))] → va_S A s.heap H locs → lv_has ls 6 [(0, .ref a_p0), (1, .int x1), (2, .int x2), (3, .long x3), (5, .int x5)] → W p l e (headSpec (Cond.code y_Mo_makes prog_6_method_20_code 6 (some .long) :: T0) rm_Mo_makes).room s m ([.ref a_p0, .int p1, .int p2] : List Value).toArray below meth c H locs 0 0 Q (F0 m 32 ls [])), ∀ (x1 : Int32) (x2 : Int32) (x3 : Int64) (x5 : Int32) (thrown : Int32) (madeState : Int32) (madeSign : Int32) (H : Heap) (locs : List Loc) (ls : Array Slot), b_Mo_makes_87 F k_32 modes products upsOf downsOf numberOf x1 x2 x3 x5 thrown madeState madeSign = some u → va_P (dC, dI) cls [(a_p0, .inr (4, [.int thrown, .int modes, .int products, .ref a_upsOf, .ref a_downsOf, .ref a_numberOf, .int wayKind, .ref z_rowOf, .ref z_writes, .ref z_reads, .int isImageKnown, .int madeState, .int madeSign, .ref z_matrix, .ref z_other, .int newMany, .ref z_newUps, .ref z_newDowns, .ref z_newNumber, .ref z_found, .ref z_image, .ref z_imagePlace, .int imagePower, .int imageMany, .int imageWires])), (a_upsOf, .inl (cI, 60, .inl upsOf)), (a_downsOf, .inl (cI, 60, .inl downsOf)), (a_numberOf, .inl (cJ, 60, .inr (.inl numberOf)))] H → va_D A [(a_p0, .inr (4, [.int thrown, .int modes, .int products, .ref a_upsOf, .ref a_downsOf, .ref a_numberOf, .int wayKind, .ref z_rowOf, .ref z_writes, .ref z_reads, .int isImageKnown, .int madeState, .int madeSign, .ref z_matrix, .ref z_other, .int newMany, .ref z_newUps, .ref z_newDowns, .ref z_newNumber, .ref z_found, .ref z_image, .ref z_imagePlace, .int imagePower, .int imageMany, .int imageWires])), (a_upsOf, .inl (cI, 60, .inl upsOf)), (a_downsOf, .inl (cI, 60, .inl downsOf)), (a_numberOf, .inl (cJ, 60, .inr (.inl numberOf)))] → va_S A s.heap H locs → lv_has ls 6 [(0, .ref a_p0), (1, .int x1), (2, .int x2), (3, .long x3), (5, .int x5)] → W p l e (headSpec (Cond.code y_Mo_makes prog_6_method_20_code 6 (some .long) :: T0) rm_Mo_makes).room s m ([.ref a_p0, .int p1, .int p2] : List Value).toArray below meth c H locs 0 0 Q (F0 m 87 ls []) := by
    intro k_32 hk_32
    intro x1 x2 x3 x5 thrown madeState madeSign H locs ls hf hP hD hS hl
    rw [b_Mo_makes_87] at hf
    obtain ⟨x5_11, e_x5_11⟩ : ∃ y : Int32, y = x5 + 1 := ⟨_, rfl⟩
    replace hf := nm_eq e_x5_11 hf
    refine lv_iinc (v := x5_11) (lv' := [(5, .int x5_11), (0, .ref a_p0), (1, .int x1), (2, .int x2), (3, .long x3)]) hx hb d_Mo_makes_87 hl (k := 4) rfl (by rw [e_x5_11]; rfl) (by decide) rfl (fun ls hl => ?_)
    refine lv_goto (tgt := 32) hx hb d_Mo_makes_90 (by decide) ?_
    exact hk_32 x1 x2 x3 x5_11 thrown madeState madeSign H locs ls hf hP hD hS (lv_sub hl [1, 2, 3, 4, 0] rfl)
  have B_32 : ∀ (n : Nat), ∀ (x1 : Int32) (x2 : Int32) (x3 : Int64) (x5 : Int32) (thrown : Int32) (madeState : Int32) (madeSign : Int32) (H : Heap) (locs : List Loc) (ls : Array Slot), b_Mo_makes_32 F modes products upsOf downsOf numberOf n x1 x2 x3 x5 thrown madeState madeSign = some u → va_P (dC, dI) cls [(a_p0, .inr (4, [.int thrown, .int modes, .int products, .ref a_upsOf, .ref a_downsOf, .ref a_numberOf, .int wayKind, .ref z_rowOf, .ref z_writes, .ref z_reads, .int isImageKnown, .int madeState, .int madeSign, .ref z_matrix, .ref z_other, .int newMany, .ref z_newUps, .ref z_newDowns, .ref z_newNumber, .ref z_found, .ref z_image, .ref z_imagePlace, .int imagePower, .int imageMany, .int imageWires])), (a_upsOf, .inl (cI, 60, .inl upsOf)), (a_downsOf, .inl (cI, 60, .inl downsOf)), (a_numberOf, .inl (cJ, 60, .inr (.inl numberOf)))] H → va_D A [(a_p0, .inr (4, [.int thrown, .int modes, .int products, .ref a_upsOf, .ref a_downsOf, .ref a_numberOf, .int wayKind, .ref z_rowOf, .ref z_writes, .ref z_reads, .int isImageKnown, .int madeState, .int madeSign, .ref z_matrix, .ref z_other, .int newMany, .ref z_newUps, .ref z_newDowns, .ref z_newNumber, .ref z_found, .ref z_image, .ref z_imagePlace, .int imagePower, .int imageMany, .int imageWires])), (a_upsOf, .inl (cI, 60, .inl upsOf)), (a_downsOf, .inl (cI, 60, .inl downsOf)), (a_numberOf, .inl (cJ, 60, .inr (.inl numberOf)))] → va_S A s.heap H locs → lv_has ls 6 [(0, .ref a_p0), (1, .int x1), (2, .int x2), (3, .long x3), (5, .int x5)] → W p l e (headSpec (Cond.code y_Mo_makes prog_6_method_20_code 6 (some .long) :: T0) rm_Mo_makes).room s m ([.ref a_p0, .int p1, .int p2] : List Value).toArray below meth c H locs 0 0 Q (F0 m 32 ls []) := by
    intro n
    induction n with
    | zero =>
      intro x1 x2 x3 x5 thrown madeState madeSign H locs ls hf hP hD hS hl
      exact no_fuel hf
    | succ n ih =>
      intro x1 x2 x3 x5 thrown madeState madeSign H locs ls hf hP hD hS hl
      rw [b_Mo_makes_32] at hf
      refine lv_iload hx hb d_Mo_makes_32 (lv_at hl 4 rfl) ?_
      refine lv_aload_n hx hb d_Mo_makes_34 rfl (lv_at hl 0 rfl) ?_
      refine va_get (D := (dC, dI)) (ci := 4) (v := .int products) (C := "FermionMapsModel") (T := F_Mo) (N := 25) hx hb ht0 i_Mo hown hK hP 0 rfl rfl 2 (by decide) (ht0 _ m_459) (fun _ h9 => h9) rfl d_Mo_makes_35 ?_
      refine lv_icmp_ge (tgt := 93) hx hb d_Mo_makes_38 (by decide) (fun c_6 => ?_) (fun c_6 => ?_)
      · replace hf := if_t c_6 hf
        refine lv_lload_n hx hb d_Mo_makes_93 rfl (lv_at hl 3 rfl) ?_
        have hu := Option.some.inj hf
        subst hu
        exact rw_l hQ rfl rfl hP hD hK hS hx hb hr hlocks d_Mo_makes_94
      · replace hf := if_f c_6 hf
        refine lv_aload_n hx hb d_Mo_makes_41 rfl (lv_at hl 0 rfl) ?_
        refine lv_aload_n hx hb d_Mo_makes_42 rfl (lv_at hl 0 rfl) ?_
        refine va_get (D := (dC, dI)) (ci := 4) (v := .ref a_upsOf) (C := "FermionMapsModel") (T := F_Mo) (N := 25) hx hb ht0 i_Mo hown hK hP 0 rfl rfl 3 (by decide) (ht0 _ m_460) (fun _ h9 => h9) rfl d_Mo_makes_43 ?_
        refine lv_iload hx hb d_Mo_makes_46 (lv_at hl 4 rfl) ?_
        obtain ⟨hi_7, hf⟩ := ckI_ok hf
        refine va_iald hx hb hK hP 1 0 rfl rfl hi_7 d_Mo_makes_48 ?_
        refine lv_aload_n hx hb d_Mo_makes_49 rfl (lv_at hl 0 rfl) ?_
        refine va_get (D := (dC, dI)) (ci := 4) (v := .ref a_downsOf) (C := "FermionMapsModel") (T := F_Mo) (N := 25) hx hb ht0 i_Mo hown hK hP 0 rfl rfl 4 (by decide) (ht0 _ m_461) (fun _ h9 => h9) rfl d_Mo_makes_50 ?_
        refine lv_iload hx hb d_Mo_makes_53 (lv_at hl 4 rfl) ?_
        obtain ⟨hi_8, hf⟩ := ckI_ok hf
        refine va_iald hx hb hK hP 2 0 rfl rfl hi_8 d_Mo_makes_55 ?_
        refine lv_iload_n hx hb d_Mo_makes_56 rfl (lv_at hl 1 rfl) ?_
        obtain ⟨u_9, h_u_9, hf⟩ := bd hf
        refine wr_i (wr := [(a_upsOf, .inl (cI, 60, .inl upsOf)), (a_downsOf, .inl (cI, 60, .inl downsOf)), (a_numberOf, .inl (cJ, 60, .inr (.inl numberOf)))]) (wrV_run (As := [.int (upsOf x5.toNatClampNeg), .int (downsOf x5.toNatClampNeg), .int x1]) (rest := []) ⟨hx, hb, hml, hown, ht0⟩ (c_Mo_make l dC dI cI cJ a_p0 a_upsOf a_downsOf a_numberOf z_rowOf z_writes z_reads z_matrix z_other z_newUps z_newDowns z_newNumber z_found z_image z_imagePlace H.size thrown modes products wayKind isImageKnown madeState madeSign newMany imagePower imageMany imageWires (upsOf x5.toNatClampNeg) (downsOf x5.toNatClampNeg) x1 F u_9 h_u_9) (cwV 3 ht0 (gV m_567 m_569 (T0_pr (y := ⟨"FermionMapsModel", "make", "(III)Z"⟩) (i := 11) rfl rfl) m_5 m_570) rfl rfl rfl (by decide +kernel) ⟨Nat.le_of_ble_eq_true rfl, Nat.le_of_ble_eq_true rfl⟩) hK hNW hP hD [0] rfl rfl (by decide) (ci := 4) (q0 := 0) rfl rfl rfl hl.1 rfl (Nat.le_of_ble_eq_true rfl) d_Mo_makes_57 ⟨Nat.zero_le _, Nat.zero_le _⟩) hP hD hS hA [0] [1, 2, 3] rfl rfl (by decide) (by decide) (fun w1 H locs hw hP hD hS => ?_)
        obtain rfl := hw
        have hP : va_P (dC, dI) cls [(a_p0, .inr (4, [.int thrown, .int modes, .int products, .ref a_upsOf, .ref a_downsOf, .ref a_numberOf, .int wayKind, .ref z_rowOf, .ref z_writes, .ref z_reads, .int isImageKnown, .int u_9.2.1, .int u_9.2.2, .ref z_matrix, .ref z_other, .int newMany, .ref z_newUps, .ref z_newDowns, .ref z_newNumber, .ref z_found, .ref z_image, .ref z_imagePlace, .int imagePower, .int imageMany, .int imageWires])), (a_upsOf, .inl (cI, 60, .inl upsOf)), (a_downsOf, .inl (cI, 60, .inl downsOf)), (a_numberOf, .inl (cJ, 60, .inr (.inl numberOf)))] H := hP.sub [3, 0, 1, 2] rfl
        have hD : va_D A [(a_p0, .inr (4, [.int thrown, .int modes, .int products, .ref a_upsOf, .ref a_downsOf, .ref a_numberOf, .int wayKind, .ref z_rowOf, .ref z_writes, .ref z_reads, .int isImageKnown, .int u_9.2.1, .int u_9.2.2, .ref z_matrix, .ref z_other, .int newMany, .ref z_newUps, .ref z_newDowns, .ref z_newNumber, .ref z_found, .ref z_image, .ref z_imagePlace, .int imagePower, .int imageMany, .int imageWires])), (a_upsOf, .inl (cI, 60, .inl upsOf)), (a_downsOf, .inl (cI, 60, .inl downsOf)), (a_numberOf, .inl (cJ, 60, .inr (.inl numberOf)))] := hD.sub [3, 0, 1, 2] (by decide) rfl
        refine lv_if_eq (tgt := 87) hx hb d_Mo_makes_60 (by decide) (fun c_10 => ?_) (fun c_10 => ?_)
        · replace hf := if_t c_10 hf
          exact B_87 (b_Mo_makes_32 F modes products upsOf downsOf numberOf n) ih x1 x2 x3 x5 thrown u_9.2.1 u_9.2.2 H locs ls hf hP hD hS (lv_sub hl [0, 1, 2, 3, 4] rfl)
        · replace hf := if_f c_10 hf
          refine lv_aload_n hx hb d_Mo_makes_63 rfl (lv_at hl 0 rfl) ?_
          refine va_get (D := (dC, dI)) (ci := 4) (v := .int u_9.2.1) (C := "FermionMapsModel") (T := F_Mo) (N := 25) hx hb ht0 i_Mo hown hK hP 0 rfl rfl 11 (by decide) (ht0 _ m_468) (fun _ h9 => h9) rfl d_Mo_makes_64 ?_
          refine lv_iload_n hx hb d_Mo_makes_67 rfl (lv_at hl 2 rfl) ?_
          refine lv_icmp_ne (tgt := 87) hx hb d_Mo_makes_68 (by decide) (fun c_12 => ?_) (fun c_12 => ?_)
          · replace hf := if_f c_12 hf
            exact B_87 (b_Mo_makes_32 F modes products upsOf downsOf numberOf n) ih x1 x2 x3 x5 thrown u_9.2.1 u_9.2.2 H locs ls hf hP hD hS (lv_sub hl [0, 1, 2, 3, 4] rfl)
          · replace hf := if_t c_12 hf
            refine lv_lload_n hx hb d_Mo_makes_71 rfl (lv_at hl 3 rfl) ?_
            refine lv_aload_n hx hb d_Mo_makes_72 rfl (lv_at hl 0 rfl) ?_
            refine va_get (D := (dC, dI)) (ci := 4) (v := .int u_9.2.2) (C := "FermionMapsModel") (T := F_Mo) (N := 25) hx hb ht0 i_Mo hown hK hP 0 rfl rfl 12 (by decide) (ht0 _ m_469) (fun _ h9 => h9) rfl d_Mo_makes_73 ?_
            refine lv_i2l (v := u_9.2.2.toInt64) hx hb d_Mo_makes_76 rfl ?_
            refine lv_aload_n hx hb d_Mo_makes_77 rfl (lv_at hl 0 rfl) ?_
            refine va_get (D := (dC, dI)) (ci := 4) (v := .ref a_numberOf) (C := "FermionMapsModel") (T := F_Mo) (N := 25) hx hb ht0 i_Mo hown hK hP 0 rfl rfl 5 (by decide) (ht0 _ m_462) (fun _ h9 => h9) rfl d_Mo_makes_78 ?_
            refine lv_iload hx hb d_Mo_makes_81 (lv_at hl 4 rfl) ?_
            obtain ⟨hi_13, hf⟩ := ckI_ok hf
            refine va_lald hx hb hK hP 3 1 rfl rfl hi_13 d_Mo_makes_83 ?_
            refine lv_lmul hx hb d_Mo_makes_84 ?_
            refine lv_ladd hx hb d_Mo_makes_85 ?_
            refine lv_topl (fun x3_14 e_x3_14 => ?_)
            replace hf := nm_eq e_x3_14 hf
            refine lv_lstore_n (lv' := [(3, .long x3_14), (0, .ref a_p0), (1, .int x1), (2, .int x2), (5, .int x5)]) hx hb d_Mo_makes_86 rfl hl (by decide) rfl (fun ls hl => ?_)
            exact B_87 (b_Mo_makes_32 F modes products upsOf downsOf numberOf n) ih x1 x2 x3_14 x5 thrown u_9.2.1 u_9.2.2 H locs ls hf hP hD hS (lv_sub hl [1, 2, 3, 0, 4] rfl)
  rw [f_Mo_makes] at hf
  refine lv_aload_n hx hb d_Mo_makes_0 rfl (lv_at hl 0 rfl) ?_
  refine lv_iconst (v := 0) hx hb d_Mo_makes_1 (by decide) ?_
  refine va_put (D := (dC, dI)) (ci := 4) (v := .int 0) (ty := .int) (C := "FermionMapsModel") (T := F_Mo) (N := 25) hx hb ht0 i_Mo t_Mo t_Mo_ok n_Mo hown hK hP hD hS 0 rfl rfl 0 (by decide) (ht0 _ m_457) (fun _ h9 => h9) rfl (by decide +kernel) rfl rfl (Nat.le_of_ble_eq_true rfl) d_Mo_makes_2 (fun H locs hP hD hS => ?_)
  have hP : va_P (dC, dI) cls [(a_p0, .inr (4, [.int 0, .int modes, .int products, .ref a_upsOf, .ref a_downsOf, .ref a_numberOf, .int wayKind, .ref z_rowOf, .ref z_writes, .ref z_reads, .int isImageKnown, .int madeState, .int madeSign, .ref z_matrix, .ref z_other, .int newMany, .ref z_newUps, .ref z_newDowns, .ref z_newNumber, .ref z_found, .ref z_image, .ref z_imagePlace, .int imagePower, .int imageMany, .int imageWires])), (a_upsOf, .inl (cI, 60, .inl upsOf)), (a_downsOf, .inl (cI, 60, .inl downsOf)), (a_numberOf, .inl (cJ, 60, .inr (.inl numberOf)))] H := hP
  have hD : va_D A [(a_p0, .inr (4, [.int 0, .int modes, .int products, .ref a_upsOf, .ref a_downsOf, .ref a_numberOf, .int wayKind, .ref z_rowOf, .ref z_writes, .ref z_reads, .int isImageKnown, .int madeState, .int madeSign, .ref z_matrix, .ref z_other, .int newMany, .ref z_newUps, .ref z_newDowns, .ref z_newNumber, .ref z_found, .ref z_image, .ref z_imagePlace, .int imagePower, .int imageMany, .int imageWires])), (a_upsOf, .inl (cI, 60, .inl upsOf)), (a_downsOf, .inl (cI, 60, .inl downsOf)), (a_numberOf, .inl (cJ, 60, .inr (.inl numberOf)))] := hD
  refine lv_aload_n hx hb d_Mo_makes_5 rfl (lv_at hl 0 rfl) ?_
  refine lv_iload_n hx hb d_Mo_makes_6 rfl (lv_at hl 1 rfl) ?_
  obtain ⟨u_1, h_u_1, hf⟩ := bd hf
  refine rd_i (rdV_run (As := [.int p1]) (rest := []) ⟨hx, hb, hml, hown, ht0⟩ (c_Mo_isState l dC dI cI cJ a_p0 a_upsOf a_downsOf a_numberOf z_rowOf z_writes z_reads z_matrix z_other z_newUps z_newDowns z_newNumber z_found z_image z_imagePlace 0 modes products wayKind isImageKnown madeState madeSign newMany imagePower imageMany imageWires p1 F u_1 h_u_1) (cwV 1 ht0 (gV m_545 m_547 (T0_pr (y := ⟨"FermionMapsModel", "isState", "(I)Z"⟩) (i := 7) rfl rfl) m_5 m_548) rfl rfl rfl (by decide +kernel) ⟨Nat.le_of_ble_eq_true rfl, Nat.le_of_ble_eq_true rfl⟩) hK hNW hP [0] rfl (ci := 4) (q0 := 0) rfl rfl rfl hl.1 rfl (Nat.le_of_ble_eq_true rfl) d_Mo_makes_7 ⟨Nat.zero_le _, Nat.zero_le _⟩) ?_
  refine lv_if_eq (tgt := 21) hx hb d_Mo_makes_10 (by decide) (fun c_2 => ?_) (fun c_2 => ?_)
  · replace hf := if_t c_2 hf
    exact B_21 0 madeState madeSign H locs ls hf hP hD hS (lv_sub hl [0] rfl)
  · replace hf := if_f c_2 hf
    refine lv_aload_n hx hb d_Mo_makes_13 rfl (lv_at hl 0 rfl) ?_
    refine lv_iload_n hx hb d_Mo_makes_14 rfl (lv_at hl 2 rfl) ?_
    obtain ⟨u_4, h_u_4, hf⟩ := bd hf
    refine rd_i (rdV_run (As := [.int p2]) (rest := []) ⟨hx, hb, hml, hown, ht0⟩ (c_Mo_isState l dC dI cI cJ a_p0 a_upsOf a_downsOf a_numberOf z_rowOf z_writes z_reads z_matrix z_other z_newUps z_newDowns z_newNumber z_found z_image z_imagePlace 0 modes products wayKind isImageKnown madeState madeSign newMany imagePower imageMany imageWires p2 F u_4 h_u_4) (cwV 1 ht0 (gV m_545 m_547 (T0_pr (y := ⟨"FermionMapsModel", "isState", "(I)Z"⟩) (i := 7) rfl rfl) m_5 m_548) rfl rfl rfl (by decide +kernel) ⟨Nat.le_of_ble_eq_true rfl, Nat.le_of_ble_eq_true rfl⟩) hK hNW hP [0] rfl (ci := 4) (q0 := 0) rfl rfl rfl hl.1 rfl (Nat.le_of_ble_eq_true rfl) d_Mo_makes_15 ⟨Nat.zero_le _, Nat.zero_le _⟩) ?_
    refine lv_if_ne (tgt := 27) hx hb d_Mo_makes_18 (by decide) (fun c_5 => ?_) (fun c_5 => ?_)
    · replace hf := if_f c_5 hf
      refine lv_lconst (v := 0) hx hb d_Mo_makes_27 (by decide) ?_
      refine lv_lstore_n (lv' := [(3, .long 0), (0, .ref a_p0), (1, .int p1), (2, .int p2)]) hx hb d_Mo_makes_28 rfl hl (by decide) rfl (fun ls hl => ?_)
      refine lv_iconst (v := 0) hx hb d_Mo_makes_29 (by decide) ?_
      refine lv_istore (lv' := [(5, .int 0), (3, .long 0), (0, .ref a_p0), (1, .int p1), (2, .int p2)]) hx hb d_Mo_makes_30 hl (by decide) rfl (fun ls hl => ?_)
      exact B_32 F p1 p2 0 0 0 madeState madeSign H locs ls hf hP hD hS (lv_sub hl [2, 3, 4, 1, 0] rfl)
    · replace hf := if_t c_5 hf
      exact B_21 0 madeState madeSign H locs ls hf hP hD hS (lv_sub hl [0] rfl)

/-! FermionMapsModel.way(I)Z -/
def b_Mo_way_18 (F : Nat) (modes : Int32) (rowOf : Nat → Int32) : Nat → Int32 → Int32 → Int32 → Int32 → Int32 → (Nat → Int32) → (Nat → Int32) → Option (Int32 × Int32 × Int32 × Int32 × (Nat → Int32) × (Nat → Int32))
  | 0, _, _, _, _, _, _, _ => none
  | n + 1, x1, x2, thrown, wayKind, isImageKnown, writes, reads =>
    (f_Mo_states F modes).bind fun u_3 =>
    if u_3 ≤ x2 then
      (f_Mo_writeAll F modes x1 isImageKnown rowOf writes reads).bind fun u_5 =>
      some (1, thrown, x1, u_5.1, u_5.2.1, u_5.2.2)
    else
      (f_Mo_write F modes rowOf x1 x2).bind fun u_6 =>
      if u_6 = 0 then
        some (0, thrown, wayKind, isImageKnown, writes, reads)
      else
        nm (x2 + 1 : Int32) fun x2_8 =>
        b_Mo_way_18 F modes rowOf n x1 x2_8 thrown wayKind isImageKnown writes reads
def f_Mo_way (F : Nat) (thrown : Int32) (modes : Int32) (wayKind : Int32) (isImageKnown : Int32) (rowOf : Nat → Int32) (writes : Nat → Int32) (reads : Nat → Int32) (p1 : Int32) : Option (Int32 × Int32 × Int32 × Int32 × (Nat → Int32) × (Nat → Int32)) :=
  if p1 < 0 then
    some (0, 0, wayKind, isImageKnown, writes, reads)
  else
    if p1 ≤ 3 then
      b_Mo_way_18 F modes rowOf F p1 1 0 wayKind isImageKnown writes reads
    else
      some (0, 0, wayKind, isImageKnown, writes, reads)
abbrev rm_Mo_way : Room := { frames := 3, cells := 0, slots := 0, locals := 68 }
set_option maxHeartbeats 4000000 in
set_option maxRecDepth 100000 in
theorem c_Mo_way (l : Launch) (dC : Nat → ClassId) (dI : Nat → Nat → Nat) (cI cJ : ClassId) (a_p0 a_rowOf a_writes a_reads z_upsOf z_downsOf z_numberOf z_matrix z_other z_newUps z_newDowns z_newNumber z_found z_image z_imagePlace : Nat) (sz : Nat) (thrown : Int32) (modes : Int32) (products : Int32) (wayKind : Int32) (isImageKnown : Int32) (madeState : Int32) (madeSign : Int32) (newMany : Int32) (imagePower : Int32) (imageMany : Int32) (imageWires : Int32) (rowOf : Nat → Int32) (writes : Nat → Int32) (reads : Nat → Int32) (p1 : Int32) (F : Nat) (u : Int32 × Int32 × Int32 × Int32 × (Nat → Int32) × (Nat → Int32)) (hf : f_Mo_way F thrown modes wayKind isImageKnown rowOf writes reads p1 = some u) : Met l y_Mo_way (Cond.code y_Mo_way prog_6_method_24_code 3 (some .boolean) :: T0) rm_Mo_way (va_Pc [.ref a_p0, .int p1] (Ww (dC, dI) [(a_p0, .inr (4, [.int thrown, .int modes, .int products, .ref z_upsOf, .ref z_downsOf, .ref z_numberOf, .int wayKind, .ref a_rowOf, .ref a_writes, .ref a_reads, .int isImageKnown, .int madeState, .int madeSign, .ref z_matrix, .ref z_other, .int newMany, .ref z_newUps, .ref z_newDowns, .ref z_newNumber, .ref z_found, .ref z_image, .ref z_imagePlace, .int imagePower, .int imageMany, .int imageWires])), (a_rowOf, .inl (cI, 8, .inl rowOf)), (a_writes, .inl (cI, 256, .inl writes)), (a_reads, .inl (cI, 256, .inl reads))] [(cI, .int), (cJ, .long)] sz)) (va_Qi (fun r (_ : Unit) => r = u.1) (Bw (dC, dI) [(cI, .int), (cJ, .long)] (va_A [(a_p0, .inr (4, [.int thrown, .int modes, .int products, .ref z_upsOf, .ref z_downsOf, .ref z_numberOf, .int wayKind, .ref a_rowOf, .ref a_writes, .ref a_reads, .int isImageKnown, .int madeState, .int madeSign, .ref z_matrix, .ref z_other, .int newMany, .ref z_newUps, .ref z_newDowns, .ref z_newNumber, .ref z_found, .ref z_image, .ref z_imagePlace, .int imagePower, .int imageMany, .int imageWires])), (a_rowOf, .inl (cI, 8, .inl rowOf)), (a_writes, .inl (cI, 256, .inl writes)), (a_reads, .inl (cI, 256, .inl reads))] sz) (fun w1 => w1 = [(a_p0, .inr (4, [.int u.2.1, .int modes, .int products, .ref z_upsOf, .ref z_downsOf, .ref z_numberOf, .int u.2.2.1, .ref a_rowOf, .ref a_writes, .ref a_reads, .int u.2.2.2.1, .int madeState, .int madeSign, .ref z_matrix, .ref z_other, .int newMany, .ref z_newUps, .ref z_newDowns, .ref z_newNumber, .ref z_found, .ref z_image, .ref z_imagePlace, .int imagePower, .int imageMany, .int imageWires])), (a_rowOf, .inl (cI, 8, .inl rowOf)), (a_writes, .inl (cI, 256, .inl u.2.2.2.2.1)), (a_reads, .inl (cI, 256, .inl u.2.2.2.2.2))])) (va_A [(a_p0, .inr (4, [.int thrown, .int modes, .int products, .ref z_upsOf, .ref z_downsOf, .ref z_numberOf, .int wayKind, .ref a_rowOf, .ref a_writes, .ref a_reads, .int isImageKnown, .int madeState, .int madeSign, .ref z_matrix, .ref z_other, .int newMany, .ref z_newUps, .ref z_newDowns, .ref z_newNumber, .ref z_found, .ref z_image, .ref z_imagePlace, .int imagePower, .int imageMany, .int imageWires])), (a_rowOf, .inl (cI, 8, .inl rowOf)), (a_writes, .inl (cI, 256, .inl writes)), (a_reads, .inl (cI, 256, .inl reads))] sz)) 0 0 (va_A [(a_p0, .inr (4, [.int thrown, .int modes, .int products, .ref z_upsOf, .ref z_downsOf, .ref z_numberOf, .int wayKind, .ref a_rowOf, .ref a_writes, .ref a_reads, .int isImageKnown, .int madeState, .int madeSign, .ref z_matrix, .ref z_other, .int newMany, .ref z_newUps, .ref z_newDowns, .ref z_newNumber, .ref z_found, .ref z_image, .ref z_imagePlace, .int imagePower, .int imageMany, .int imageWires])), (a_rowOf, .inl (cI, 8, .inl rowOf)), (a_writes, .inl (cI, 256, .inl writes)), (a_reads, .inl (cI, 256, .inl reads))] sz) := by
  refine Met.ofW (cc := prog_6_method_24_code) (maxL := 3) (ret := (some .boolean)) (by decide) rfl ?_
  intro p e s m args below meth c s₁ B hml hv
  obtain ⟨rfl, hsz, hP, hK, hD0, hNW⟩ := hv
  have hx := B.exec
  have hb := B.bytes
  have hr := B.returns
  have hts := atoms_spec (ws := Cond.code y_Mo_way prog_6_method_24_code 3 (some .boolean) :: T0) B.pre
  have ht0 : ∀ w ∈ T0, w.before ([.ref a_p0, .int p1] : List Value).toArray s = true := fun w h => hts w (List.mem_cons_of_mem _ h)
  have hown : s.vm.findClass "FermionMapsModel" = some m.cls := findClass_of_methodNamed B.named
  have hlocks := B.notSynchronized
  subst hsz
  have hD := hD0.self (sz := s.heap.size)
  generalize hAe : va_A [(a_p0, .inr (4, [.int thrown, .int modes, .int products, .ref z_upsOf, .ref z_downsOf, .ref z_numberOf, .int wayKind, .ref a_rowOf, .ref a_writes, .ref a_reads, .int isImageKnown, .int madeState, .int madeSign, .ref z_matrix, .ref z_other, .int newMany, .ref z_newUps, .ref z_newDowns, .ref z_newNumber, .ref z_found, .ref z_image, .ref z_imagePlace, .int imagePower, .int imageMany, .int imageWires])), (a_rowOf, .inl (cI, 8, .inl rowOf)), (a_writes, .inl (cI, 256, .inl writes)), (a_reads, .inl (cI, 256, .inl reads))] s.heap.size = A at hD ⊢
  have hA : ∀ q : Nat, s.heap.size ≤ q → A q := fun q h => by rw [← hAe]; exact Or.inr h
  have hS : va_S A s.heap s.heap [] := va_S.rf
  have hl := lv_entry ([.ref a_p0, .int p1]) (n := 3) (Nat.le_of_ble_eq_true rfl)
  rw [lg_entry_eq]
  generalize (lg_sl ([.ref a_p0, .int p1]) ++ List.replicate (3 - (lg_sl ([.ref a_p0, .int p1])).length) Slot.unset).toArray = ls at hl ⊢
  have hl : lv_has ls 3 [(0, .ref a_p0), (1, .int p1)] := hl
  refine W.nameQ (fun Q hQ => ?_)
  have B_18 : ∀ (n : Nat), ∀ (x1 : Int32) (x2 : Int32) (thrown : Int32) (wayKind : Int32) (isImageKnown : Int32) (writes : Nat → Int32) (reads : Nat → Int32) (H : Heap) (locs : List Loc) (ls : Array Slot), b_Mo_way_18 F modes rowOf n x1 x2 thrown wayKind isImageKnown writes reads = some u → va_P (dC, dI) cls [(a_p0, .inr (4, [.int thrown, .int modes, .int products, .ref z_upsOf, .ref z_downsOf, .ref z_numberOf, .int wayKind, .ref a_rowOf, .ref a_writes, .ref a_reads, .int isImageKnown, .int madeState, .int madeSign, .ref z_matrix, .ref z_other, .int newMany, .ref z_newUps, .ref z_newDowns, .ref z_newNumber, .ref z_found, .ref z_image, .ref z_imagePlace, .int imagePower, .int imageMany, .int imageWires])), (a_rowOf, .inl (cI, 8, .inl rowOf)), (a_writes, .inl (cI, 256, .inl writes)), (a_reads, .inl (cI, 256, .inl reads))] H → va_D A [(a_p0, .inr (4, [.int thrown, .int modes, .int products, .ref z_upsOf, .ref z_downsOf, .ref z_numberOf, .int wayKind, .ref a_rowOf, .ref a_writes, .ref a_reads, .int isImageKnown, .int madeState, .int madeSign, .ref z_matrix, .ref z_other, .int newMany, .ref z_newUps, .ref z_newDowns, .ref z_newNumber, .ref z_found, .ref z_image, .ref z_imagePlace, .int imagePower, .int imageMany, .int imageWires])), (a_rowOf, .inl (cI, 8, .inl rowOf)), (a_writes, .inl (cI, 256, .inl writes)), (a_reads, .inl (cI, 256, .inl reads))] → va_S A s.heap H locs → lv_has ls 3 [(0, .ref a_p0), (1, .int x1), (2, .int x2)] → W p l e (headSpec (Cond.code y_Mo_way prog_6_method_24_code 3 (some .boolean) :: T0) rm_Mo_way).room s m ([.ref a_p0, .int p1] : List Value).toArray below meth c H locs 0 0 Q (F0 m 18 ls []) := by
    intro n
    induction n with
    | zero =>
      intro x1 x2 thrown wayKind isImageKnown writes reads H locs ls hf hP hD hS hl
      exact no_fuel hf
    | succ n ih =>
      intro x1 x2 thrown wayKind isImageKnown writes reads H locs ls hf hP hD hS hl
      rw [b_Mo_way_18] at hf
      refine lv_iload_n hx hb d_Mo_way_18 rfl (lv_at hl 2 rfl) ?_
      refine lv_aload_n hx hb d_Mo_way_19 rfl (lv_at hl 0 rfl) ?_
      obtain ⟨u_3, h_u_3, hf⟩ := bd hf
      refine rd_i (rdV_run (As := []) (rest := [.int x2]) ⟨hx, hb, hml, hown, ht0⟩ (c_Mo_states l dC dI cI cJ a_p0 z_upsOf z_downsOf z_numberOf a_rowOf a_writes a_reads z_matrix z_other z_newUps z_newDowns z_newNumber z_found z_image z_imagePlace thrown modes products wayKind isImageKnown madeState madeSign newMany imagePower imageMany imageWires F u_3 h_u_3) (cwV 0 ht0 (gV m_442 m_444 (T0_pr (y := ⟨"FermionMapsModel", "states", "()I"⟩) (i := 4) rfl rfl) m_5 m_445) rfl rfl rfl (by decide +kernel) ⟨Nat.le_of_ble_eq_true rfl, Nat.le_of_ble_eq_true rfl⟩) hK hNW hP [0] rfl (ci := 4) (q0 := 0) rfl rfl rfl hl.1 rfl (Nat.le_of_ble_eq_true rfl) d_Mo_way_20 ⟨Nat.zero_le _, Nat.zero_le _⟩) ?_
      refine lv_icmp_ge (tgt := 43) hx hb d_Mo_way_23 (by decide) (fun c_4 => ?_) (fun c_4 => ?_)
      · replace hf := if_t c_4 hf
        refine lv_aload_n hx hb d_Mo_way_43 rfl (lv_at hl 0 rfl) ?_
        refine lv_iload_n hx hb d_Mo_way_44 rfl (lv_at hl 1 rfl) ?_
        refine va_put (D := (dC, dI)) (ci := 4) (v := .int x1) (ty := .int) (C := "FermionMapsModel") (T := F_Mo) (N := 25) hx hb ht0 i_Mo t_Mo t_Mo_ok n_Mo hown hK hP hD hS 0 rfl rfl 6 (by decide) (ht0 _ m_463) (fun _ h9 => h9) rfl (by decide +kernel) rfl rfl (Nat.le_of_ble_eq_true rfl) d_Mo_way_45 (fun H locs hP hD hS => ?_)
        have hP : va_P (dC, dI) cls [(a_p0, .inr (4, [.int thrown, .int modes, .int products, .ref z_upsOf, .ref z_downsOf, .ref z_numberOf, .int x1, .ref a_rowOf, .ref a_writes, .ref a_reads, .int isImageKnown, .int madeState, .int madeSign, .ref z_matrix, .ref z_other, .int newMany, .ref z_newUps, .ref z_newDowns, .ref z_newNumber, .ref z_found, .ref z_image, .ref z_imagePlace, .int imagePower, .int imageMany, .int imageWires])), (a_rowOf, .inl (cI, 8, .inl rowOf)), (a_writes, .inl (cI, 256, .inl writes)), (a_reads, .inl (cI, 256, .inl reads))] H := hP
        have hD : va_D A [(a_p0, .inr (4, [.int thrown, .int modes, .int products, .ref z_upsOf, .ref z_downsOf, .ref z_numberOf, .int x1, .ref a_rowOf, .ref a_writes, .ref a_reads, .int isImageKnown, .int madeState, .int madeSign, .ref z_matrix, .ref z_other, .int newMany, .ref z_newUps, .ref z_newDowns, .ref z_newNumber, .ref z_found, .ref z_image, .ref z_imagePlace, .int imagePower, .int imageMany, .int imageWires])), (a_rowOf, .inl (cI, 8, .inl rowOf)), (a_writes, .inl (cI, 256, .inl writes)), (a_reads, .inl (cI, 256, .inl reads))] := hD
        refine lv_aload_n hx hb d_Mo_way_48 rfl (lv_at hl 0 rfl) ?_
        obtain ⟨u_5, h_u_5, hf⟩ := bd hf
        refine wr_v (wr := []) (wrV_run (As := []) (rest := []) ⟨hx, hb, hml, hown, ht0⟩ (c_Mo_writeAll l dC dI cI cJ a_p0 a_rowOf a_writes a_reads z_upsOf z_downsOf z_numberOf z_matrix z_other z_newUps z_newDowns z_newNumber z_found z_image z_imagePlace H.size thrown modes products x1 isImageKnown madeState madeSign newMany imagePower imageMany imageWires rowOf writes reads F u_5 h_u_5) (cwV 0 ht0 (gV m_438 m_440 (T0_pr (y := ⟨"FermionMapsModel", "writeAll", "()V"⟩) (i := 3) rfl rfl) m_5 m_441) rfl rfl rfl (by decide +kernel) ⟨Nat.le_of_ble_eq_true rfl, Nat.le_of_ble_eq_true rfl⟩) hK hNW hP hD [0, 1, 2, 3] rfl rfl (by decide) (ci := 4) (q0 := 0) rfl rfl rfl hl.1 rfl (Nat.le_of_ble_eq_true rfl) d_Mo_way_49 ⟨Nat.zero_le _, Nat.zero_le _⟩) hP hD hS hA [0, 1, 2, 3] [] rfl rfl (by decide) (by decide) (fun w1 H locs hw hP hD hS => ?_)
        obtain rfl := hw
        have hP : va_P (dC, dI) cls [(a_p0, .inr (4, [.int thrown, .int modes, .int products, .ref z_upsOf, .ref z_downsOf, .ref z_numberOf, .int x1, .ref a_rowOf, .ref a_writes, .ref a_reads, .int u_5.1, .int madeState, .int madeSign, .ref z_matrix, .ref z_other, .int newMany, .ref z_newUps, .ref z_newDowns, .ref z_newNumber, .ref z_found, .ref z_image, .ref z_imagePlace, .int imagePower, .int imageMany, .int imageWires])), (a_rowOf, .inl (cI, 8, .inl rowOf)), (a_writes, .inl (cI, 256, .inl u_5.2.1)), (a_reads, .inl (cI, 256, .inl u_5.2.2))] H := hP.sub [0, 1, 2, 3] rfl
        have hD : va_D A [(a_p0, .inr (4, [.int thrown, .int modes, .int products, .ref z_upsOf, .ref z_downsOf, .ref z_numberOf, .int x1, .ref a_rowOf, .ref a_writes, .ref a_reads, .int u_5.1, .int madeState, .int madeSign, .ref z_matrix, .ref z_other, .int newMany, .ref z_newUps, .ref z_newDowns, .ref z_newNumber, .ref z_found, .ref z_image, .ref z_imagePlace, .int imagePower, .int imageMany, .int imageWires])), (a_rowOf, .inl (cI, 8, .inl rowOf)), (a_writes, .inl (cI, 256, .inl u_5.2.1)), (a_reads, .inl (cI, 256, .inl u_5.2.2))] := hD.sub [0, 1, 2, 3] (by decide) rfl
        refine lv_iconst (v := 1) hx hb d_Mo_way_52 (by decide) ?_
        have hu := Option.some.inj hf
        subst hu
        exact rw_z hQ rfl rfl rfl hP hD hK hS hx hb hr hlocks d_Mo_way_53
      · replace hf := if_f c_4 hf
        refine lv_aload_n hx hb d_Mo_way_26 rfl (lv_at hl 0 rfl) ?_
        refine lv_iload_n hx hb d_Mo_way_27 rfl (lv_at hl 1 rfl) ?_
        refine lv_iload_n hx hb d_Mo_way_28 rfl (lv_at hl 2 rfl) ?_
        obtain ⟨u_6, h_u_6, hf⟩ := bd hf
        refine rd_i (rdV_run (As := [.int x1, .int x2]) (rest := []) ⟨hx, hb, hml, hown, ht0⟩ (c_Mo_write l dC dI cI cJ a_p0 a_rowOf z_upsOf z_downsOf z_numberOf a_writes a_reads z_matrix z_other z_newUps z_newDowns z_newNumber z_found z_image z_imagePlace thrown modes products wayKind isImageKnown madeState madeSign newMany imagePower imageMany imageWires rowOf x1 x2 F u_6 h_u_6) (cwV 2 ht0 (gV m_446 m_448 (T0_pr (y := ⟨"FermionMapsModel", "write", "(II)I"⟩) (i := 5) rfl rfl) m_5 m_449) rfl rfl rfl (by decide +kernel) ⟨Nat.le_of_ble_eq_true rfl, Nat.le_of_ble_eq_true rfl⟩) hK hNW hP [0, 1] rfl (ci := 4) (q0 := 0) rfl rfl rfl hl.1 rfl (Nat.le_of_ble_eq_true rfl) d_Mo_way_29 ⟨Nat.zero_le _, Nat.zero_le _⟩) ?_
        refine lv_if_ne (tgt := 37) hx hb d_Mo_way_32 (by decide) (fun c_7 => ?_) (fun c_7 => ?_)
        · replace hf := if_f c_7 hf
          obtain ⟨x2_8, e_x2_8⟩ : ∃ y : Int32, y = x2 + 1 := ⟨_, rfl⟩
          replace hf := nm_eq e_x2_8 hf
          refine lv_iinc (v := x2_8) (lv' := [(2, .int x2_8), (0, .ref a_p0), (1, .int x1)]) hx hb d_Mo_way_37 hl (k := 2) rfl (by rw [e_x2_8]; rfl) (by decide) rfl (fun ls hl => ?_)
          refine lv_goto (tgt := 18) hx hb d_Mo_way_40 (by decide) ?_
          exact ih x1 x2_8 thrown wayKind isImageKnown writes reads H locs ls hf hP hD hS (lv_sub hl [1, 2, 0] rfl)
        · replace hf := if_t c_7 hf
          refine lv_iconst (v := 0) hx hb d_Mo_way_35 (by decide) ?_
          have hu := Option.some.inj hf
          subst hu
          exact rw_z hQ rfl rfl rfl hP hD hK hS hx hb hr hlocks d_Mo_way_36
  rw [f_Mo_way] at hf
  refine lv_aload_n hx hb d_Mo_way_0 rfl (lv_at hl 0 rfl) ?_
  refine lv_iconst (v := 0) hx hb d_Mo_way_1 (by decide) ?_
  refine va_put (D := (dC, dI)) (ci := 4) (v := .int 0) (ty := .int) (C := "FermionMapsModel") (T := F_Mo) (N := 25) hx hb ht0 i_Mo t_Mo t_Mo_ok n_Mo hown hK hP hD hS 0 rfl rfl 0 (by decide) (ht0 _ m_457) (fun _ h9 => h9) rfl (by decide +kernel) rfl rfl (Nat.le_of_ble_eq_true rfl) d_Mo_way_2 (fun H locs hP hD hS => ?_)
  have hP : va_P (dC, dI) cls [(a_p0, .inr (4, [.int 0, .int modes, .int products, .ref z_upsOf, .ref z_downsOf, .ref z_numberOf, .int wayKind, .ref a_rowOf, .ref a_writes, .ref a_reads, .int isImageKnown, .int madeState, .int madeSign, .ref z_matrix, .ref z_other, .int newMany, .ref z_newUps, .ref z_newDowns, .ref z_newNumber, .ref z_found, .ref z_image, .ref z_imagePlace, .int imagePower, .int imageMany, .int imageWires])), (a_rowOf, .inl (cI, 8, .inl rowOf)), (a_writes, .inl (cI, 256, .inl writes)), (a_reads, .inl (cI, 256, .inl reads))] H := hP
  have hD : va_D A [(a_p0, .inr (4, [.int 0, .int modes, .int products, .ref z_upsOf, .ref z_downsOf, .ref z_numberOf, .int wayKind, .ref a_rowOf, .ref a_writes, .ref a_reads, .int isImageKnown, .int madeState, .int madeSign, .ref z_matrix, .ref z_other, .int newMany, .ref z_newUps, .ref z_newDowns, .ref z_newNumber, .ref z_found, .ref z_image, .ref z_imagePlace, .int imagePower, .int imageMany, .int imageWires])), (a_rowOf, .inl (cI, 8, .inl rowOf)), (a_writes, .inl (cI, 256, .inl writes)), (a_reads, .inl (cI, 256, .inl reads))] := hD
  refine lv_iload_n hx hb d_Mo_way_5 rfl (lv_at hl 1 rfl) ?_
  refine lv_if_lt (tgt := 14) hx hb d_Mo_way_6 (by decide) (fun c_1 => ?_) (fun c_1 => ?_)
  · replace hf := if_t c_1 hf
    refine lv_iconst (v := 0) hx hb d_Mo_way_14 (by decide) ?_
    have hu := Option.some.inj hf
    subst hu
    exact rw_z hQ rfl rfl rfl hP hD hK hS hx hb hr hlocks d_Mo_way_15
  · replace hf := if_f c_1 hf
    refine lv_iload_n hx hb d_Mo_way_9 rfl (lv_at hl 1 rfl) ?_
    refine lv_iconst (v := 3) hx hb d_Mo_way_10 (by decide) ?_
    refine lv_icmp_le (tgt := 16) hx hb d_Mo_way_11 (by decide) (fun c_2 => ?_) (fun c_2 => ?_)
    · replace hf := if_t c_2 hf
      refine lv_iconst (v := 1) hx hb d_Mo_way_16 (by decide) ?_
      refine lv_istore_n (lv' := [(2, .int 1), (0, .ref a_p0), (1, .int p1)]) hx hb d_Mo_way_17 rfl hl (by decide) rfl (fun ls hl => ?_)
      exact B_18 F p1 1 0 wayKind isImageKnown writes reads H locs ls hf hP hD hS (lv_sub hl [1, 2, 0] rfl)
    · replace hf := if_f c_2 hf
      refine lv_iconst (v := 0) hx hb d_Mo_way_14 (by decide) ?_
      have hu := Option.some.inj hf
      subst hu
      exact rw_z hQ rfl rfl rfl hP hD hK hS hx hb hr hlocks d_Mo_way_15

/-! FermionMapsModel.row(II)Z -/
def f_Mo_row (F : Nat) (thrown : Int32) (modes : Int32) (wayKind : Int32) (rowOf : Nat → Int32) (p1 : Int32) (p2 : Int32) : Option (Int32 × Int32 × (Nat → Int32)) :=
  if p1 < 0 then
    some (0, 0, rowOf)
  else
    if modes ≤ p1 then
      some (0, 0, rowOf)
    else
      (f_Mo_isState F modes p2).bind fun u_3 =>
      if u_3 = 0 then
        some (0, 0, rowOf)
      else
        if wayKind = 3 then
          some (0, 0, rowOf)
        else
          ckI p1 8 <|
          some (1, 0, (upd rowOf p1.toNatClampNeg p2))
abbrev rm_Mo_row : Room := { frames := 2, cells := 0, slots := 0, locals := 41 }
set_option maxHeartbeats 4000000 in
set_option maxRecDepth 100000 in
theorem c_Mo_row (l : Launch) (dC : Nat → ClassId) (dI : Nat → Nat → Nat) (cI cJ : ClassId) (a_p0 a_rowOf z_upsOf z_downsOf z_numberOf z_writes z_reads z_matrix z_other z_newUps z_newDowns z_newNumber z_found z_image z_imagePlace : Nat) (sz : Nat) (thrown : Int32) (modes : Int32) (products : Int32) (wayKind : Int32) (isImageKnown : Int32) (madeState : Int32) (madeSign : Int32) (newMany : Int32) (imagePower : Int32) (imageMany : Int32) (imageWires : Int32) (rowOf : Nat → Int32) (p1 : Int32) (p2 : Int32) (F : Nat) (u : Int32 × Int32 × (Nat → Int32)) (hf : f_Mo_row F thrown modes wayKind rowOf p1 p2 = some u) : Met l y_Mo_row (Cond.code y_Mo_row prog_6_method_25_code 3 (some .boolean) :: T0) rm_Mo_row (va_Pc [.ref a_p0, .int p1, .int p2] (Ww (dC, dI) [(a_p0, .inr (4, [.int thrown, .int modes, .int products, .ref z_upsOf, .ref z_downsOf, .ref z_numberOf, .int wayKind, .ref a_rowOf, .ref z_writes, .ref z_reads, .int isImageKnown, .int madeState, .int madeSign, .ref z_matrix, .ref z_other, .int newMany, .ref z_newUps, .ref z_newDowns, .ref z_newNumber, .ref z_found, .ref z_image, .ref z_imagePlace, .int imagePower, .int imageMany, .int imageWires])), (a_rowOf, .inl (cI, 8, .inl rowOf))] [(cI, .int), (cJ, .long)] sz)) (va_Qi (fun r (_ : Unit) => r = u.1) (Bw (dC, dI) [(cI, .int), (cJ, .long)] (va_A [(a_p0, .inr (4, [.int thrown, .int modes, .int products, .ref z_upsOf, .ref z_downsOf, .ref z_numberOf, .int wayKind, .ref a_rowOf, .ref z_writes, .ref z_reads, .int isImageKnown, .int madeState, .int madeSign, .ref z_matrix, .ref z_other, .int newMany, .ref z_newUps, .ref z_newDowns, .ref z_newNumber, .ref z_found, .ref z_image, .ref z_imagePlace, .int imagePower, .int imageMany, .int imageWires])), (a_rowOf, .inl (cI, 8, .inl rowOf))] sz) (fun w1 => w1 = [(a_p0, .inr (4, [.int u.2.1, .int modes, .int products, .ref z_upsOf, .ref z_downsOf, .ref z_numberOf, .int wayKind, .ref a_rowOf, .ref z_writes, .ref z_reads, .int isImageKnown, .int madeState, .int madeSign, .ref z_matrix, .ref z_other, .int newMany, .ref z_newUps, .ref z_newDowns, .ref z_newNumber, .ref z_found, .ref z_image, .ref z_imagePlace, .int imagePower, .int imageMany, .int imageWires])), (a_rowOf, .inl (cI, 8, .inl u.2.2))])) (va_A [(a_p0, .inr (4, [.int thrown, .int modes, .int products, .ref z_upsOf, .ref z_downsOf, .ref z_numberOf, .int wayKind, .ref a_rowOf, .ref z_writes, .ref z_reads, .int isImageKnown, .int madeState, .int madeSign, .ref z_matrix, .ref z_other, .int newMany, .ref z_newUps, .ref z_newDowns, .ref z_newNumber, .ref z_found, .ref z_image, .ref z_imagePlace, .int imagePower, .int imageMany, .int imageWires])), (a_rowOf, .inl (cI, 8, .inl rowOf))] sz)) 0 0 (va_A [(a_p0, .inr (4, [.int thrown, .int modes, .int products, .ref z_upsOf, .ref z_downsOf, .ref z_numberOf, .int wayKind, .ref a_rowOf, .ref z_writes, .ref z_reads, .int isImageKnown, .int madeState, .int madeSign, .ref z_matrix, .ref z_other, .int newMany, .ref z_newUps, .ref z_newDowns, .ref z_newNumber, .ref z_found, .ref z_image, .ref z_imagePlace, .int imagePower, .int imageMany, .int imageWires])), (a_rowOf, .inl (cI, 8, .inl rowOf))] sz) := by
  refine Met.ofW (cc := prog_6_method_25_code) (maxL := 3) (ret := (some .boolean)) (by decide) rfl ?_
  intro p e s m args below meth c s₁ B hml hv
  obtain ⟨rfl, hsz, hP, hK, hD0, hNW⟩ := hv
  have hx := B.exec
  have hb := B.bytes
  have hr := B.returns
  have hts := atoms_spec (ws := Cond.code y_Mo_row prog_6_method_25_code 3 (some .boolean) :: T0) B.pre
  have ht0 : ∀ w ∈ T0, w.before ([.ref a_p0, .int p1, .int p2] : List Value).toArray s = true := fun w h => hts w (List.mem_cons_of_mem _ h)
  have hown : s.vm.findClass "FermionMapsModel" = some m.cls := findClass_of_methodNamed B.named
  have hlocks := B.notSynchronized
  subst hsz
  have hD := hD0.self (sz := s.heap.size)
  generalize hAe : va_A [(a_p0, .inr (4, [.int thrown, .int modes, .int products, .ref z_upsOf, .ref z_downsOf, .ref z_numberOf, .int wayKind, .ref a_rowOf, .ref z_writes, .ref z_reads, .int isImageKnown, .int madeState, .int madeSign, .ref z_matrix, .ref z_other, .int newMany, .ref z_newUps, .ref z_newDowns, .ref z_newNumber, .ref z_found, .ref z_image, .ref z_imagePlace, .int imagePower, .int imageMany, .int imageWires])), (a_rowOf, .inl (cI, 8, .inl rowOf))] s.heap.size = A at hD ⊢
  have hA : ∀ q : Nat, s.heap.size ≤ q → A q := fun q h => by rw [← hAe]; exact Or.inr h
  have hS : va_S A s.heap s.heap [] := va_S.rf
  have hl := lv_entry ([.ref a_p0, .int p1, .int p2]) (n := 3) (Nat.le_of_ble_eq_true rfl)
  rw [lg_entry_eq]
  generalize (lg_sl ([.ref a_p0, .int p1, .int p2]) ++ List.replicate (3 - (lg_sl ([.ref a_p0, .int p1, .int p2])).length) Slot.unset).toArray = ls at hl ⊢
  have hl : lv_has ls 3 [(0, .ref a_p0), (1, .int p1), (2, .int p2)] := hl
  refine W.nameQ (fun Q hQ => ?_)
  rw [f_Mo_row] at hf
  refine lv_aload_n hx hb d_Mo_row_0 rfl (lv_at hl 0 rfl) ?_
  refine lv_iconst (v := 0) hx hb d_Mo_row_1 (by decide) ?_
  refine va_put (D := (dC, dI)) (ci := 4) (v := .int 0) (ty := .int) (C := "FermionMapsModel") (T := F_Mo) (N := 25) hx hb ht0 i_Mo t_Mo t_Mo_ok n_Mo hown hK hP hD hS 0 rfl rfl 0 (by decide) (ht0 _ m_457) (fun _ h9 => h9) rfl (by decide +kernel) rfl rfl (Nat.le_of_ble_eq_true rfl) d_Mo_row_2 (fun H locs hP hD hS => ?_)
  have hP : va_P (dC, dI) cls [(a_p0, .inr (4, [.int 0, .int modes, .int products, .ref z_upsOf, .ref z_downsOf, .ref z_numberOf, .int wayKind, .ref a_rowOf, .ref z_writes, .ref z_reads, .int isImageKnown, .int madeState, .int madeSign, .ref z_matrix, .ref z_other, .int newMany, .ref z_newUps, .ref z_newDowns, .ref z_newNumber, .ref z_found, .ref z_image, .ref z_imagePlace, .int imagePower, .int imageMany, .int imageWires])), (a_rowOf, .inl (cI, 8, .inl rowOf))] H := hP
  have hD : va_D A [(a_p0, .inr (4, [.int 0, .int modes, .int products, .ref z_upsOf, .ref z_downsOf, .ref z_numberOf, .int wayKind, .ref a_rowOf, .ref z_writes, .ref z_reads, .int isImageKnown, .int madeState, .int madeSign, .ref z_matrix, .ref z_other, .int newMany, .ref z_newUps, .ref z_newDowns, .ref z_newNumber, .ref z_found, .ref z_image, .ref z_imagePlace, .int imagePower, .int imageMany, .int imageWires])), (a_rowOf, .inl (cI, 8, .inl rowOf))] := hD
  refine lv_iload_n hx hb d_Mo_row_5 rfl (lv_at hl 1 rfl) ?_
  refine lv_if_lt (tgt := 33) hx hb d_Mo_row_6 (by decide) (fun c_1 => ?_) (fun c_1 => ?_)
  · replace hf := if_t c_1 hf
    refine lv_iconst (v := 0) hx hb d_Mo_row_33 (by decide) ?_
    have hu := Option.some.inj hf
    subst hu
    exact rw_z hQ rfl rfl rfl hP hD hK hS hx hb hr hlocks d_Mo_row_34
  · replace hf := if_f c_1 hf
    refine lv_iload_n hx hb d_Mo_row_9 rfl (lv_at hl 1 rfl) ?_
    refine lv_aload_n hx hb d_Mo_row_10 rfl (lv_at hl 0 rfl) ?_
    refine va_get (D := (dC, dI)) (ci := 4) (v := .int modes) (C := "FermionMapsModel") (T := F_Mo) (N := 25) hx hb ht0 i_Mo hown hK hP 0 rfl rfl 1 (by decide) (ht0 _ m_458) (fun _ h9 => h9) rfl d_Mo_row_11 ?_
    refine lv_icmp_ge (tgt := 33) hx hb d_Mo_row_14 (by decide) (fun c_2 => ?_) (fun c_2 => ?_)
    · replace hf := if_t c_2 hf
      refine lv_iconst (v := 0) hx hb d_Mo_row_33 (by decide) ?_
      have hu := Option.some.inj hf
      subst hu
      exact rw_z hQ rfl rfl rfl hP hD hK hS hx hb hr hlocks d_Mo_row_34
    · replace hf := if_f c_2 hf
      refine lv_aload_n hx hb d_Mo_row_17 rfl (lv_at hl 0 rfl) ?_
      refine lv_iload_n hx hb d_Mo_row_18 rfl (lv_at hl 2 rfl) ?_
      obtain ⟨u_3, h_u_3, hf⟩ := bd hf
      refine rd_i (rdV_run (As := [.int p2]) (rest := []) ⟨hx, hb, hml, hown, ht0⟩ (c_Mo_isState l dC dI cI cJ a_p0 z_upsOf z_downsOf z_numberOf a_rowOf z_writes z_reads z_matrix z_other z_newUps z_newDowns z_newNumber z_found z_image z_imagePlace 0 modes products wayKind isImageKnown madeState madeSign newMany imagePower imageMany imageWires p2 F u_3 h_u_3) (cwV 1 ht0 (gV m_545 m_547 (T0_pr (y := ⟨"FermionMapsModel", "isState", "(I)Z"⟩) (i := 7) rfl rfl) m_5 m_548) rfl rfl rfl (by decide +kernel) ⟨Nat.le_of_ble_eq_true rfl, Nat.le_of_ble_eq_true rfl⟩) hK hNW hP [0] rfl (ci := 4) (q0 := 0) rfl rfl rfl hl.1 rfl (Nat.le_of_ble_eq_true rfl) d_Mo_row_19 ⟨Nat.zero_le _, Nat.zero_le _⟩) ?_
      refine lv_if_eq (tgt := 33) hx hb d_Mo_row_22 (by decide) (fun c_4 => ?_) (fun c_4 => ?_)
      · replace hf := if_t c_4 hf
        refine lv_iconst (v := 0) hx hb d_Mo_row_33 (by decide) ?_
        have hu := Option.some.inj hf
        subst hu
        exact rw_z hQ rfl rfl rfl hP hD hK hS hx hb hr hlocks d_Mo_row_34
      · replace hf := if_f c_4 hf
        refine lv_aload_n hx hb d_Mo_row_25 rfl (lv_at hl 0 rfl) ?_
        refine va_get (D := (dC, dI)) (ci := 4) (v := .int wayKind) (C := "FermionMapsModel") (T := F_Mo) (N := 25) hx hb ht0 i_Mo hown hK hP 0 rfl rfl 6 (by decide) (ht0 _ m_463) (fun _ h9 => h9) rfl d_Mo_row_26 ?_
        refine lv_iconst (v := 3) hx hb d_Mo_row_29 (by decide) ?_
        refine lv_icmp_ne (tgt := 35) hx hb d_Mo_row_30 (by decide) (fun c_5 => ?_) (fun c_5 => ?_)
        · replace hf := if_f c_5 hf
          refine lv_aload_n hx hb d_Mo_row_35 rfl (lv_at hl 0 rfl) ?_
          refine va_get (D := (dC, dI)) (ci := 4) (v := .ref a_rowOf) (C := "FermionMapsModel") (T := F_Mo) (N := 25) hx hb ht0 i_Mo hown hK hP 0 rfl rfl 7 (by decide) (ht0 _ m_464) (fun _ h9 => h9) rfl d_Mo_row_36 ?_
          refine lv_iload_n hx hb d_Mo_row_39 rfl (lv_at hl 1 rfl) ?_
          refine lv_iload_n hx hb d_Mo_row_40 rfl (lv_at hl 2 rfl) ?_
          obtain ⟨hi_6, hf⟩ := ckI_ok hf
          refine va_iast hx hb hK hP hD hS 1 0 rfl rfl hi_6 d_Mo_row_41 (fun H locs hP hD hS => ?_)
          have hP : va_P (dC, dI) cls [(a_p0, .inr (4, [.int 0, .int modes, .int products, .ref z_upsOf, .ref z_downsOf, .ref z_numberOf, .int wayKind, .ref a_rowOf, .ref z_writes, .ref z_reads, .int isImageKnown, .int madeState, .int madeSign, .ref z_matrix, .ref z_other, .int newMany, .ref z_newUps, .ref z_newDowns, .ref z_newNumber, .ref z_found, .ref z_image, .ref z_imagePlace, .int imagePower, .int imageMany, .int imageWires])), (a_rowOf, .inl (cI, 8, .inl (upd rowOf p1.toNatClampNeg p2)))] H := hP
          have hD : va_D A [(a_p0, .inr (4, [.int 0, .int modes, .int products, .ref z_upsOf, .ref z_downsOf, .ref z_numberOf, .int wayKind, .ref a_rowOf, .ref z_writes, .ref z_reads, .int isImageKnown, .int madeState, .int madeSign, .ref z_matrix, .ref z_other, .int newMany, .ref z_newUps, .ref z_newDowns, .ref z_newNumber, .ref z_found, .ref z_image, .ref z_imagePlace, .int imagePower, .int imageMany, .int imageWires])), (a_rowOf, .inl (cI, 8, .inl (upd rowOf p1.toNatClampNeg p2)))] := hD
          refine lv_iconst (v := 1) hx hb d_Mo_row_42 (by decide) ?_
          have hu := Option.some.inj hf
          subst hu
          exact rw_z hQ rfl rfl rfl hP hD hK hS hx hb hr hlocks d_Mo_row_43
        · replace hf := if_t c_5 hf
          refine lv_iconst (v := 0) hx hb d_Mo_row_33 (by decide) ?_
          have hu := Option.some.inj hf
          subst hu
          exact rw_z hQ rfl rfl rfl hP hD hK hS hx hb hr hlocks d_Mo_row_34

/-! FermionMapsModel.written(I)I -/
def f_Mo_written (F : Nat) (thrown : Int32) (modes : Int32) (writes : Nat → Int32) (p1 : Int32) : Option (Int32 × Int32) :=
  (f_Mo_isState F modes p1).bind fun u_1 =>
  if u_1 = 0 then
    some ((-1), 0)
  else
    ckI p1 256 <|
    some ((writes p1.toNatClampNeg), 0)
abbrev rm_Mo_written : Room := { frames := 2, cells := 0, slots := 0, locals := 41 }
set_option maxHeartbeats 4000000 in
set_option maxRecDepth 100000 in
theorem c_Mo_written (l : Launch) (dC : Nat → ClassId) (dI : Nat → Nat → Nat) (cI cJ : ClassId) (a_p0 a_writes z_upsOf z_downsOf z_numberOf z_rowOf z_reads z_matrix z_other z_newUps z_newDowns z_newNumber z_found z_image z_imagePlace : Nat) (sz : Nat) (thrown : Int32) (modes : Int32) (products : Int32) (wayKind : Int32) (isImageKnown : Int32) (madeState : Int32) (madeSign : Int32) (newMany : Int32) (imagePower : Int32) (imageMany : Int32) (imageWires : Int32) (writes : Nat → Int32) (p1 : Int32) (F : Nat) (u : Int32 × Int32) (hf : f_Mo_written F thrown modes writes p1 = some u) : Met l y_Mo_written (Cond.code y_Mo_written prog_6_method_26_code 2 (some .int) :: T0) rm_Mo_written (va_Pc [.ref a_p0, .int p1] (Ww (dC, dI) [(a_p0, .inr (4, [.int thrown, .int modes, .int products, .ref z_upsOf, .ref z_downsOf, .ref z_numberOf, .int wayKind, .ref z_rowOf, .ref a_writes, .ref z_reads, .int isImageKnown, .int madeState, .int madeSign, .ref z_matrix, .ref z_other, .int newMany, .ref z_newUps, .ref z_newDowns, .ref z_newNumber, .ref z_found, .ref z_image, .ref z_imagePlace, .int imagePower, .int imageMany, .int imageWires])), (a_writes, .inl (cI, 256, .inl writes))] [(cI, .int), (cJ, .long)] sz)) (va_Qi (fun r (_ : Unit) => r = u.1) (Bw (dC, dI) [(cI, .int), (cJ, .long)] (va_A [(a_p0, .inr (4, [.int thrown, .int modes, .int products, .ref z_upsOf, .ref z_downsOf, .ref z_numberOf, .int wayKind, .ref z_rowOf, .ref a_writes, .ref z_reads, .int isImageKnown, .int madeState, .int madeSign, .ref z_matrix, .ref z_other, .int newMany, .ref z_newUps, .ref z_newDowns, .ref z_newNumber, .ref z_found, .ref z_image, .ref z_imagePlace, .int imagePower, .int imageMany, .int imageWires])), (a_writes, .inl (cI, 256, .inl writes))] sz) (fun w1 => w1 = [(a_p0, .inr (4, [.int u.2, .int modes, .int products, .ref z_upsOf, .ref z_downsOf, .ref z_numberOf, .int wayKind, .ref z_rowOf, .ref a_writes, .ref z_reads, .int isImageKnown, .int madeState, .int madeSign, .ref z_matrix, .ref z_other, .int newMany, .ref z_newUps, .ref z_newDowns, .ref z_newNumber, .ref z_found, .ref z_image, .ref z_imagePlace, .int imagePower, .int imageMany, .int imageWires])), (a_writes, .inl (cI, 256, .inl writes))])) (va_A [(a_p0, .inr (4, [.int thrown, .int modes, .int products, .ref z_upsOf, .ref z_downsOf, .ref z_numberOf, .int wayKind, .ref z_rowOf, .ref a_writes, .ref z_reads, .int isImageKnown, .int madeState, .int madeSign, .ref z_matrix, .ref z_other, .int newMany, .ref z_newUps, .ref z_newDowns, .ref z_newNumber, .ref z_found, .ref z_image, .ref z_imagePlace, .int imagePower, .int imageMany, .int imageWires])), (a_writes, .inl (cI, 256, .inl writes))] sz)) 0 0 (va_A [(a_p0, .inr (4, [.int thrown, .int modes, .int products, .ref z_upsOf, .ref z_downsOf, .ref z_numberOf, .int wayKind, .ref z_rowOf, .ref a_writes, .ref z_reads, .int isImageKnown, .int madeState, .int madeSign, .ref z_matrix, .ref z_other, .int newMany, .ref z_newUps, .ref z_newDowns, .ref z_newNumber, .ref z_found, .ref z_image, .ref z_imagePlace, .int imagePower, .int imageMany, .int imageWires])), (a_writes, .inl (cI, 256, .inl writes))] sz) := by
  refine Met.ofW (cc := prog_6_method_26_code) (maxL := 2) (ret := (some .int)) (by decide) rfl ?_
  intro p e s m args below meth c s₁ B hml hv
  obtain ⟨rfl, hsz, hP, hK, hD0, hNW⟩ := hv
  have hx := B.exec
  have hb := B.bytes
  have hr := B.returns
  have hts := atoms_spec (ws := Cond.code y_Mo_written prog_6_method_26_code 2 (some .int) :: T0) B.pre
  have ht0 : ∀ w ∈ T0, w.before ([.ref a_p0, .int p1] : List Value).toArray s = true := fun w h => hts w (List.mem_cons_of_mem _ h)
  have hown : s.vm.findClass "FermionMapsModel" = some m.cls := findClass_of_methodNamed B.named
  have hlocks := B.notSynchronized
  subst hsz
  have hD := hD0.self (sz := s.heap.size)
  generalize hAe : va_A [(a_p0, .inr (4, [.int thrown, .int modes, .int products, .ref z_upsOf, .ref z_downsOf, .ref z_numberOf, .int wayKind, .ref z_rowOf, .ref a_writes, .ref z_reads, .int isImageKnown, .int madeState, .int madeSign, .ref z_matrix, .ref z_other, .int newMany, .ref z_newUps, .ref z_newDowns, .ref z_newNumber, .ref z_found, .ref z_image, .ref z_imagePlace, .int imagePower, .int imageMany, .int imageWires])), (a_writes, .inl (cI, 256, .inl writes))] s.heap.size = A at hD ⊢
  have hA : ∀ q : Nat, s.heap.size ≤ q → A q := fun q h => by rw [← hAe]; exact Or.inr h
  have hS : va_S A s.heap s.heap [] := va_S.rf
  have hl := lv_entry ([.ref a_p0, .int p1]) (n := 2) (Nat.le_of_ble_eq_true rfl)
  rw [lg_entry_eq]
  generalize (lg_sl ([.ref a_p0, .int p1]) ++ List.replicate (2 - (lg_sl ([.ref a_p0, .int p1])).length) Slot.unset).toArray = ls at hl ⊢
  have hl : lv_has ls 2 [(0, .ref a_p0), (1, .int p1)] := hl
  refine W.nameQ (fun Q hQ => ?_)
  rw [f_Mo_written] at hf
  refine lv_aload_n hx hb d_Mo_written_0 rfl (lv_at hl 0 rfl) ?_
  refine lv_iconst (v := 0) hx hb d_Mo_written_1 (by decide) ?_
  refine va_put (D := (dC, dI)) (ci := 4) (v := .int 0) (ty := .int) (C := "FermionMapsModel") (T := F_Mo) (N := 25) hx hb ht0 i_Mo t_Mo t_Mo_ok n_Mo hown hK hP hD hS 0 rfl rfl 0 (by decide) (ht0 _ m_457) (fun _ h9 => h9) rfl (by decide +kernel) rfl rfl (Nat.le_of_ble_eq_true rfl) d_Mo_written_2 (fun H locs hP hD hS => ?_)
  have hP : va_P (dC, dI) cls [(a_p0, .inr (4, [.int 0, .int modes, .int products, .ref z_upsOf, .ref z_downsOf, .ref z_numberOf, .int wayKind, .ref z_rowOf, .ref a_writes, .ref z_reads, .int isImageKnown, .int madeState, .int madeSign, .ref z_matrix, .ref z_other, .int newMany, .ref z_newUps, .ref z_newDowns, .ref z_newNumber, .ref z_found, .ref z_image, .ref z_imagePlace, .int imagePower, .int imageMany, .int imageWires])), (a_writes, .inl (cI, 256, .inl writes))] H := hP
  have hD : va_D A [(a_p0, .inr (4, [.int 0, .int modes, .int products, .ref z_upsOf, .ref z_downsOf, .ref z_numberOf, .int wayKind, .ref z_rowOf, .ref a_writes, .ref z_reads, .int isImageKnown, .int madeState, .int madeSign, .ref z_matrix, .ref z_other, .int newMany, .ref z_newUps, .ref z_newDowns, .ref z_newNumber, .ref z_found, .ref z_image, .ref z_imagePlace, .int imagePower, .int imageMany, .int imageWires])), (a_writes, .inl (cI, 256, .inl writes))] := hD
  refine lv_aload_n hx hb d_Mo_written_5 rfl (lv_at hl 0 rfl) ?_
  refine lv_iload_n hx hb d_Mo_written_6 rfl (lv_at hl 1 rfl) ?_
  obtain ⟨u_1, h_u_1, hf⟩ := bd hf
  refine rd_i (rdV_run (As := [.int p1]) (rest := []) ⟨hx, hb, hml, hown, ht0⟩ (c_Mo_isState l dC dI cI cJ a_p0 z_upsOf z_downsOf z_numberOf z_rowOf a_writes z_reads z_matrix z_other z_newUps z_newDowns z_newNumber z_found z_image z_imagePlace 0 modes products wayKind isImageKnown madeState madeSign newMany imagePower imageMany imageWires p1 F u_1 h_u_1) (cwV 1 ht0 (gV m_545 m_547 (T0_pr (y := ⟨"FermionMapsModel", "isState", "(I)Z"⟩) (i := 7) rfl rfl) m_5 m_548) rfl rfl rfl (by decide +kernel) ⟨Nat.le_of_ble_eq_true rfl, Nat.le_of_ble_eq_true rfl⟩) hK hNW hP [0] rfl (ci := 4) (q0 := 0) rfl rfl rfl hl.1 rfl (Nat.le_of_ble_eq_true rfl) d_Mo_written_7 ⟨Nat.zero_le _, Nat.zero_le _⟩) ?_
  refine lv_if_eq (tgt := 22) hx hb d_Mo_written_10 (by decide) (fun c_2 => ?_) (fun c_2 => ?_)
  · replace hf := if_t c_2 hf
    refine lv_iconst (v := (-1)) hx hb d_Mo_written_22 (by decide) ?_
    have hu := Option.some.inj hf
    subst hu
    exact rw_i hQ rfl rfl hP hD hK hS hx hb hr hlocks d_Mo_written_23
  · replace hf := if_f c_2 hf
    refine lv_aload_n hx hb d_Mo_written_13 rfl (lv_at hl 0 rfl) ?_
    refine va_get (D := (dC, dI)) (ci := 4) (v := .ref a_writes) (C := "FermionMapsModel") (T := F_Mo) (N := 25) hx hb ht0 i_Mo hown hK hP 0 rfl rfl 8 (by decide) (ht0 _ m_465) (fun _ h9 => h9) rfl d_Mo_written_14 ?_
    refine lv_iload_n hx hb d_Mo_written_17 rfl (lv_at hl 1 rfl) ?_
    obtain ⟨hi_3, hf⟩ := ckI_ok hf
    refine va_iald hx hb hK hP 1 0 rfl rfl hi_3 d_Mo_written_18 ?_
    refine lv_goto (tgt := 23) hx hb d_Mo_written_19 (by decide) ?_
    have hu := Option.some.inj hf
    subst hu
    exact rw_i hQ rfl rfl hP hD hK hS hx hb hr hlocks d_Mo_written_23

/-! FermionMapsModel.read(I)I -/
def f_Mo_read (F : Nat) (thrown : Int32) (modes : Int32) (reads : Nat → Int32) (p1 : Int32) : Option (Int32 × Int32) :=
  (f_Mo_isState F modes p1).bind fun u_1 =>
  if u_1 = 0 then
    some ((-1), 0)
  else
    ckI p1 256 <|
    some ((reads p1.toNatClampNeg), 0)
abbrev rm_Mo_read : Room := { frames := 2, cells := 0, slots := 0, locals := 41 }
set_option maxHeartbeats 4000000 in
set_option maxRecDepth 100000 in
theorem c_Mo_read (l : Launch) (dC : Nat → ClassId) (dI : Nat → Nat → Nat) (cI cJ : ClassId) (a_p0 a_reads z_upsOf z_downsOf z_numberOf z_rowOf z_writes z_matrix z_other z_newUps z_newDowns z_newNumber z_found z_image z_imagePlace : Nat) (sz : Nat) (thrown : Int32) (modes : Int32) (products : Int32) (wayKind : Int32) (isImageKnown : Int32) (madeState : Int32) (madeSign : Int32) (newMany : Int32) (imagePower : Int32) (imageMany : Int32) (imageWires : Int32) (reads : Nat → Int32) (p1 : Int32) (F : Nat) (u : Int32 × Int32) (hf : f_Mo_read F thrown modes reads p1 = some u) : Met l y_Mo_read (Cond.code y_Mo_read prog_6_method_27_code 2 (some .int) :: T0) rm_Mo_read (va_Pc [.ref a_p0, .int p1] (Ww (dC, dI) [(a_p0, .inr (4, [.int thrown, .int modes, .int products, .ref z_upsOf, .ref z_downsOf, .ref z_numberOf, .int wayKind, .ref z_rowOf, .ref z_writes, .ref a_reads, .int isImageKnown, .int madeState, .int madeSign, .ref z_matrix, .ref z_other, .int newMany, .ref z_newUps, .ref z_newDowns, .ref z_newNumber, .ref z_found, .ref z_image, .ref z_imagePlace, .int imagePower, .int imageMany, .int imageWires])), (a_reads, .inl (cI, 256, .inl reads))] [(cI, .int), (cJ, .long)] sz)) (va_Qi (fun r (_ : Unit) => r = u.1) (Bw (dC, dI) [(cI, .int), (cJ, .long)] (va_A [(a_p0, .inr (4, [.int thrown, .int modes, .int products, .ref z_upsOf, .ref z_downsOf, .ref z_numberOf, .int wayKind, .ref z_rowOf, .ref z_writes, .ref a_reads, .int isImageKnown, .int madeState, .int madeSign, .ref z_matrix, .ref z_other, .int newMany, .ref z_newUps, .ref z_newDowns, .ref z_newNumber, .ref z_found, .ref z_image, .ref z_imagePlace, .int imagePower, .int imageMany, .int imageWires])), (a_reads, .inl (cI, 256, .inl reads))] sz) (fun w1 => w1 = [(a_p0, .inr (4, [.int u.2, .int modes, .int products, .ref z_upsOf, .ref z_downsOf, .ref z_numberOf, .int wayKind, .ref z_rowOf, .ref z_writes, .ref a_reads, .int isImageKnown, .int madeState, .int madeSign, .ref z_matrix, .ref z_other, .int newMany, .ref z_newUps, .ref z_newDowns, .ref z_newNumber, .ref z_found, .ref z_image, .ref z_imagePlace, .int imagePower, .int imageMany, .int imageWires])), (a_reads, .inl (cI, 256, .inl reads))])) (va_A [(a_p0, .inr (4, [.int thrown, .int modes, .int products, .ref z_upsOf, .ref z_downsOf, .ref z_numberOf, .int wayKind, .ref z_rowOf, .ref z_writes, .ref a_reads, .int isImageKnown, .int madeState, .int madeSign, .ref z_matrix, .ref z_other, .int newMany, .ref z_newUps, .ref z_newDowns, .ref z_newNumber, .ref z_found, .ref z_image, .ref z_imagePlace, .int imagePower, .int imageMany, .int imageWires])), (a_reads, .inl (cI, 256, .inl reads))] sz)) 0 0 (va_A [(a_p0, .inr (4, [.int thrown, .int modes, .int products, .ref z_upsOf, .ref z_downsOf, .ref z_numberOf, .int wayKind, .ref z_rowOf, .ref z_writes, .ref a_reads, .int isImageKnown, .int madeState, .int madeSign, .ref z_matrix, .ref z_other, .int newMany, .ref z_newUps, .ref z_newDowns, .ref z_newNumber, .ref z_found, .ref z_image, .ref z_imagePlace, .int imagePower, .int imageMany, .int imageWires])), (a_reads, .inl (cI, 256, .inl reads))] sz) := by
  refine Met.ofW (cc := prog_6_method_27_code) (maxL := 2) (ret := (some .int)) (by decide) rfl ?_
  intro p e s m args below meth c s₁ B hml hv
  obtain ⟨rfl, hsz, hP, hK, hD0, hNW⟩ := hv
  have hx := B.exec
  have hb := B.bytes
  have hr := B.returns
  have hts := atoms_spec (ws := Cond.code y_Mo_read prog_6_method_27_code 2 (some .int) :: T0) B.pre
  have ht0 : ∀ w ∈ T0, w.before ([.ref a_p0, .int p1] : List Value).toArray s = true := fun w h => hts w (List.mem_cons_of_mem _ h)
  have hown : s.vm.findClass "FermionMapsModel" = some m.cls := findClass_of_methodNamed B.named
  have hlocks := B.notSynchronized
  subst hsz
  have hD := hD0.self (sz := s.heap.size)
  generalize hAe : va_A [(a_p0, .inr (4, [.int thrown, .int modes, .int products, .ref z_upsOf, .ref z_downsOf, .ref z_numberOf, .int wayKind, .ref z_rowOf, .ref z_writes, .ref a_reads, .int isImageKnown, .int madeState, .int madeSign, .ref z_matrix, .ref z_other, .int newMany, .ref z_newUps, .ref z_newDowns, .ref z_newNumber, .ref z_found, .ref z_image, .ref z_imagePlace, .int imagePower, .int imageMany, .int imageWires])), (a_reads, .inl (cI, 256, .inl reads))] s.heap.size = A at hD ⊢
  have hA : ∀ q : Nat, s.heap.size ≤ q → A q := fun q h => by rw [← hAe]; exact Or.inr h
  have hS : va_S A s.heap s.heap [] := va_S.rf
  have hl := lv_entry ([.ref a_p0, .int p1]) (n := 2) (Nat.le_of_ble_eq_true rfl)
  rw [lg_entry_eq]
  generalize (lg_sl ([.ref a_p0, .int p1]) ++ List.replicate (2 - (lg_sl ([.ref a_p0, .int p1])).length) Slot.unset).toArray = ls at hl ⊢
  have hl : lv_has ls 2 [(0, .ref a_p0), (1, .int p1)] := hl
  refine W.nameQ (fun Q hQ => ?_)
  rw [f_Mo_read] at hf
  refine lv_aload_n hx hb d_Mo_read_0 rfl (lv_at hl 0 rfl) ?_
  refine lv_iconst (v := 0) hx hb d_Mo_read_1 (by decide) ?_
  refine va_put (D := (dC, dI)) (ci := 4) (v := .int 0) (ty := .int) (C := "FermionMapsModel") (T := F_Mo) (N := 25) hx hb ht0 i_Mo t_Mo t_Mo_ok n_Mo hown hK hP hD hS 0 rfl rfl 0 (by decide) (ht0 _ m_457) (fun _ h9 => h9) rfl (by decide +kernel) rfl rfl (Nat.le_of_ble_eq_true rfl) d_Mo_read_2 (fun H locs hP hD hS => ?_)
  have hP : va_P (dC, dI) cls [(a_p0, .inr (4, [.int 0, .int modes, .int products, .ref z_upsOf, .ref z_downsOf, .ref z_numberOf, .int wayKind, .ref z_rowOf, .ref z_writes, .ref a_reads, .int isImageKnown, .int madeState, .int madeSign, .ref z_matrix, .ref z_other, .int newMany, .ref z_newUps, .ref z_newDowns, .ref z_newNumber, .ref z_found, .ref z_image, .ref z_imagePlace, .int imagePower, .int imageMany, .int imageWires])), (a_reads, .inl (cI, 256, .inl reads))] H := hP
  have hD : va_D A [(a_p0, .inr (4, [.int 0, .int modes, .int products, .ref z_upsOf, .ref z_downsOf, .ref z_numberOf, .int wayKind, .ref z_rowOf, .ref z_writes, .ref a_reads, .int isImageKnown, .int madeState, .int madeSign, .ref z_matrix, .ref z_other, .int newMany, .ref z_newUps, .ref z_newDowns, .ref z_newNumber, .ref z_found, .ref z_image, .ref z_imagePlace, .int imagePower, .int imageMany, .int imageWires])), (a_reads, .inl (cI, 256, .inl reads))] := hD
  refine lv_aload_n hx hb d_Mo_read_5 rfl (lv_at hl 0 rfl) ?_
  refine lv_iload_n hx hb d_Mo_read_6 rfl (lv_at hl 1 rfl) ?_
  obtain ⟨u_1, h_u_1, hf⟩ := bd hf
  refine rd_i (rdV_run (As := [.int p1]) (rest := []) ⟨hx, hb, hml, hown, ht0⟩ (c_Mo_isState l dC dI cI cJ a_p0 z_upsOf z_downsOf z_numberOf z_rowOf z_writes a_reads z_matrix z_other z_newUps z_newDowns z_newNumber z_found z_image z_imagePlace 0 modes products wayKind isImageKnown madeState madeSign newMany imagePower imageMany imageWires p1 F u_1 h_u_1) (cwV 1 ht0 (gV m_545 m_547 (T0_pr (y := ⟨"FermionMapsModel", "isState", "(I)Z"⟩) (i := 7) rfl rfl) m_5 m_548) rfl rfl rfl (by decide +kernel) ⟨Nat.le_of_ble_eq_true rfl, Nat.le_of_ble_eq_true rfl⟩) hK hNW hP [0] rfl (ci := 4) (q0 := 0) rfl rfl rfl hl.1 rfl (Nat.le_of_ble_eq_true rfl) d_Mo_read_7 ⟨Nat.zero_le _, Nat.zero_le _⟩) ?_
  refine lv_if_eq (tgt := 22) hx hb d_Mo_read_10 (by decide) (fun c_2 => ?_) (fun c_2 => ?_)
  · replace hf := if_t c_2 hf
    refine lv_iconst (v := (-1)) hx hb d_Mo_read_22 (by decide) ?_
    have hu := Option.some.inj hf
    subst hu
    exact rw_i hQ rfl rfl hP hD hK hS hx hb hr hlocks d_Mo_read_23
  · replace hf := if_f c_2 hf
    refine lv_aload_n hx hb d_Mo_read_13 rfl (lv_at hl 0 rfl) ?_
    refine va_get (D := (dC, dI)) (ci := 4) (v := .ref a_reads) (C := "FermionMapsModel") (T := F_Mo) (N := 25) hx hb ht0 i_Mo hown hK hP 0 rfl rfl 9 (by decide) (ht0 _ m_466) (fun _ h9 => h9) rfl d_Mo_read_14 ?_
    refine lv_iload_n hx hb d_Mo_read_17 rfl (lv_at hl 1 rfl) ?_
    obtain ⟨hi_3, hf⟩ := ckI_ok hf
    refine va_iald hx hb hK hP 1 0 rfl rfl hi_3 d_Mo_read_18 ?_
    refine lv_goto (tgt := 23) hx hb d_Mo_read_19 (by decide) ?_
    have hu := Option.some.inj hf
    subst hu
    exact rw_i hQ rfl rfl hP hD hK hS hx hb hr hlocks d_Mo_read_23
