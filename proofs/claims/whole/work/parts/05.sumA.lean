theorem d_Su_strike_0 : decode prog_3_method_9_code 0 = .ok (.aload_n 0, 1) := by decide +kernel
theorem d_Su_strike_1 : decode prog_3_method_9_code 1 = .ok (.dup, 1) := by decide +kernel
theorem d_Su_strike_2 : decode prog_3_method_9_code 2 = .ok (.getfield 24, 3) := by decide +kernel
theorem d_Su_strike_5 : decode prog_3_method_9_code 5 = .ok (.iconst 1, 1) := by decide +kernel
theorem d_Su_strike_6 : decode prog_3_method_9_code 6 = .ok (.isub, 1) := by decide +kernel
theorem d_Su_strike_7 : decode prog_3_method_9_code 7 = .ok (.putfield 24, 3) := by decide +kernel
theorem d_Su_strike_10 : decode prog_3_method_9_code 10 = .ok (.iload_n 1, 1) := by decide +kernel
theorem d_Su_strike_11 : decode prog_3_method_9_code 11 = .ok (.istore_n 2, 1) := by decide +kernel
theorem d_Su_strike_12 : decode prog_3_method_9_code 12 = .ok (.iload_n 2, 1) := by decide +kernel
theorem d_Su_strike_13 : decode prog_3_method_9_code 13 = .ok (.aload_n 0, 1) := by decide +kernel
theorem d_Su_strike_14 : decode prog_3_method_9_code 14 = .ok (.getfield 24, 3) := by decide +kernel
theorem d_Su_strike_17 : decode prog_3_method_9_code 17 = .ok (.if_icmp .ge 37, 3) := by decide +kernel
theorem d_Su_strike_20 : decode prog_3_method_9_code 20 = .ok (.aload_n 0, 1) := by decide +kernel
theorem d_Su_strike_21 : decode prog_3_method_9_code 21 = .ok (.getfield 9, 3) := by decide +kernel
theorem d_Su_strike_24 : decode prog_3_method_9_code 24 = .ok (.iload_n 2, 1) := by decide +kernel
theorem d_Su_strike_25 : decode prog_3_method_9_code 25 = .ok (.aload_n 0, 1) := by decide +kernel
theorem d_Su_strike_26 : decode prog_3_method_9_code 26 = .ok (.getfield 9, 3) := by decide +kernel
theorem d_Su_strike_29 : decode prog_3_method_9_code 29 = .ok (.iload_n 2, 1) := by decide +kernel
theorem d_Su_strike_30 : decode prog_3_method_9_code 30 = .ok (.iconst 1, 1) := by decide +kernel
theorem d_Su_strike_31 : decode prog_3_method_9_code 31 = .ok (.iadd, 1) := by decide +kernel
theorem d_Su_strike_32 : decode prog_3_method_9_code 32 = .ok (.iaload, 1) := by decide +kernel
theorem d_Su_strike_33 : decode prog_3_method_9_code 33 = .ok (.iastore, 1) := by decide +kernel
theorem d_Su_strike_34 : decode prog_3_method_9_code 34 = .ok (.aload_n 0, 1) := by decide +kernel
theorem d_Su_strike_35 : decode prog_3_method_9_code 35 = .ok (.getfield 15, 3) := by decide +kernel
theorem d_Su_strike_38 : decode prog_3_method_9_code 38 = .ok (.iload_n 2, 1) := by decide +kernel
theorem d_Su_strike_39 : decode prog_3_method_9_code 39 = .ok (.aload_n 0, 1) := by decide +kernel
theorem d_Su_strike_40 : decode prog_3_method_9_code 40 = .ok (.getfield 15, 3) := by decide +kernel
theorem d_Su_strike_43 : decode prog_3_method_9_code 43 = .ok (.iload_n 2, 1) := by decide +kernel
theorem d_Su_strike_44 : decode prog_3_method_9_code 44 = .ok (.iconst 1, 1) := by decide +kernel
theorem d_Su_strike_45 : decode prog_3_method_9_code 45 = .ok (.iadd, 1) := by decide +kernel
theorem d_Su_strike_46 : decode prog_3_method_9_code 46 = .ok (.iaload, 1) := by decide +kernel
theorem d_Su_strike_47 : decode prog_3_method_9_code 47 = .ok (.iastore, 1) := by decide +kernel
theorem d_Su_strike_48 : decode prog_3_method_9_code 48 = .ok (.iinc 2 1, 3) := by decide +kernel
theorem d_Su_strike_51 : decode prog_3_method_9_code 51 = .ok (.goto (-39), 3) := by decide +kernel
theorem d_Su_strike_54 : decode prog_3_method_9_code 54 = .ok (.return_, 1) := by decide +kernel
theorem d_Su_change_0 : decode prog_3_method_7_code 0 = .ok (.iload_n 2, 1) := by decide +kernel
theorem d_Su_change_1 : decode prog_3_method_7_code 1 = .ok (.invokestatic 58, 3) := by decide +kernel
theorem d_Su_change_4 : decode prog_3_method_7_code 4 = .ok (.ifCond .eq 5, 3) := by decide +kernel
theorem d_Su_change_7 : decode prog_3_method_7_code 7 = .ok (.iconst 0, 1) := by decide +kernel
theorem d_Su_change_8 : decode prog_3_method_7_code 8 = .ok (.ireturn, 1) := by decide +kernel
theorem d_Su_change_9 : decode prog_3_method_7_code 9 = .ok (.iload_n 2, 1) := by decide +kernel
theorem d_Su_change_10 : decode prog_3_method_7_code 10 = .ok (.ifCond .ne 11, 3) := by decide +kernel
theorem d_Su_change_13 : decode prog_3_method_7_code 13 = .ok (.aload_n 0, 1) := by decide +kernel
theorem d_Su_change_14 : decode prog_3_method_7_code 14 = .ok (.iload_n 1, 1) := by decide +kernel
theorem d_Su_change_15 : decode prog_3_method_7_code 15 = .ok (.invokevirtual 61, 3) := by decide +kernel
theorem d_Su_change_18 : decode prog_3_method_7_code 18 = .ok (.goto 10, 3) := by decide +kernel
theorem d_Su_change_21 : decode prog_3_method_7_code 21 = .ok (.aload_n 0, 1) := by decide +kernel
theorem d_Su_change_22 : decode prog_3_method_7_code 22 = .ok (.getfield 15, 3) := by decide +kernel
theorem d_Su_change_25 : decode prog_3_method_7_code 25 = .ok (.iload_n 1, 1) := by decide +kernel
theorem d_Su_change_26 : decode prog_3_method_7_code 26 = .ok (.iload_n 2, 1) := by decide +kernel
theorem d_Su_change_27 : decode prog_3_method_7_code 27 = .ok (.iastore, 1) := by decide +kernel
theorem d_Su_change_28 : decode prog_3_method_7_code 28 = .ok (.iconst 1, 1) := by decide +kernel
theorem d_Su_change_29 : decode prog_3_method_7_code 29 = .ok (.ireturn, 1) := by decide +kernel
theorem d_Su_insert_0 : decode prog_3_method_8_code 0 = .ok (.aload_n 0, 1) := by decide +kernel
theorem d_Su_insert_1 : decode prog_3_method_8_code 1 = .ok (.getfield 24, 3) := by decide +kernel
theorem d_Su_insert_4 : decode prog_3_method_8_code 4 = .ok (.istore 4, 2) := by decide +kernel
theorem d_Su_insert_6 : decode prog_3_method_8_code 6 = .ok (.iload 4, 2) := by decide +kernel
theorem d_Su_insert_8 : decode prog_3_method_8_code 8 = .ok (.iload_n 1, 1) := by decide +kernel
theorem d_Su_insert_9 : decode prog_3_method_8_code 9 = .ok (.if_icmp .le 41, 3) := by decide +kernel
theorem d_Su_insert_12 : decode prog_3_method_8_code 12 = .ok (.aload_n 0, 1) := by decide +kernel
theorem d_Su_insert_13 : decode prog_3_method_8_code 13 = .ok (.getfield 9, 3) := by decide +kernel
theorem d_Su_insert_16 : decode prog_3_method_8_code 16 = .ok (.iload 4, 2) := by decide +kernel
theorem d_Su_insert_18 : decode prog_3_method_8_code 18 = .ok (.aload_n 0, 1) := by decide +kernel
theorem d_Su_insert_19 : decode prog_3_method_8_code 19 = .ok (.getfield 9, 3) := by decide +kernel
theorem d_Su_insert_22 : decode prog_3_method_8_code 22 = .ok (.iload 4, 2) := by decide +kernel
theorem d_Su_insert_24 : decode prog_3_method_8_code 24 = .ok (.iconst 1, 1) := by decide +kernel
theorem d_Su_insert_25 : decode prog_3_method_8_code 25 = .ok (.isub, 1) := by decide +kernel
theorem d_Su_insert_26 : decode prog_3_method_8_code 26 = .ok (.iaload, 1) := by decide +kernel
theorem d_Su_insert_27 : decode prog_3_method_8_code 27 = .ok (.iastore, 1) := by decide +kernel
theorem d_Su_insert_28 : decode prog_3_method_8_code 28 = .ok (.aload_n 0, 1) := by decide +kernel
theorem d_Su_insert_29 : decode prog_3_method_8_code 29 = .ok (.getfield 15, 3) := by decide +kernel
theorem d_Su_insert_32 : decode prog_3_method_8_code 32 = .ok (.iload 4, 2) := by decide +kernel
theorem d_Su_insert_34 : decode prog_3_method_8_code 34 = .ok (.aload_n 0, 1) := by decide +kernel
theorem d_Su_insert_35 : decode prog_3_method_8_code 35 = .ok (.getfield 15, 3) := by decide +kernel
theorem d_Su_insert_38 : decode prog_3_method_8_code 38 = .ok (.iload 4, 2) := by decide +kernel
theorem d_Su_insert_40 : decode prog_3_method_8_code 40 = .ok (.iconst 1, 1) := by decide +kernel
theorem d_Su_insert_41 : decode prog_3_method_8_code 41 = .ok (.isub, 1) := by decide +kernel
theorem d_Su_insert_42 : decode prog_3_method_8_code 42 = .ok (.iaload, 1) := by decide +kernel
theorem d_Su_insert_43 : decode prog_3_method_8_code 43 = .ok (.iastore, 1) := by decide +kernel
theorem d_Su_insert_44 : decode prog_3_method_8_code 44 = .ok (.iinc 4 (-1), 3) := by decide +kernel
theorem d_Su_insert_47 : decode prog_3_method_8_code 47 = .ok (.goto (-41), 3) := by decide +kernel
theorem d_Su_insert_50 : decode prog_3_method_8_code 50 = .ok (.aload_n 0, 1) := by decide +kernel
theorem d_Su_insert_51 : decode prog_3_method_8_code 51 = .ok (.getfield 9, 3) := by decide +kernel
theorem d_Su_insert_54 : decode prog_3_method_8_code 54 = .ok (.iload_n 1, 1) := by decide +kernel
theorem d_Su_insert_55 : decode prog_3_method_8_code 55 = .ok (.iload_n 2, 1) := by decide +kernel
theorem d_Su_insert_56 : decode prog_3_method_8_code 56 = .ok (.iastore, 1) := by decide +kernel
theorem d_Su_insert_57 : decode prog_3_method_8_code 57 = .ok (.aload_n 0, 1) := by decide +kernel
theorem d_Su_insert_58 : decode prog_3_method_8_code 58 = .ok (.getfield 15, 3) := by decide +kernel
theorem d_Su_insert_61 : decode prog_3_method_8_code 61 = .ok (.iload_n 1, 1) := by decide +kernel
theorem d_Su_insert_62 : decode prog_3_method_8_code 62 = .ok (.iload_n 3, 1) := by decide +kernel
theorem d_Su_insert_63 : decode prog_3_method_8_code 63 = .ok (.iastore, 1) := by decide +kernel
theorem d_Su_insert_64 : decode prog_3_method_8_code 64 = .ok (.aload_n 0, 1) := by decide +kernel
theorem d_Su_insert_65 : decode prog_3_method_8_code 65 = .ok (.dup, 1) := by decide +kernel
theorem d_Su_insert_66 : decode prog_3_method_8_code 66 = .ok (.getfield 24, 3) := by decide +kernel
theorem d_Su_insert_69 : decode prog_3_method_8_code 69 = .ok (.iconst 1, 1) := by decide +kernel
theorem d_Su_insert_70 : decode prog_3_method_8_code 70 = .ok (.iadd, 1) := by decide +kernel
theorem d_Su_insert_71 : decode prog_3_method_8_code 71 = .ok (.putfield 24, 3) := by decide +kernel
theorem d_Su_insert_74 : decode prog_3_method_8_code 74 = .ok (.return_, 1) := by decide +kernel
theorem d_Su_take_0 : decode prog_3_method_6_code 0 = .ok (.iconst 0, 1) := by decide +kernel
theorem d_Su_take_1 : decode prog_3_method_6_code 1 = .ok (.istore_n 3, 1) := by decide +kernel
theorem d_Su_take_2 : decode prog_3_method_6_code 2 = .ok (.iload_n 3, 1) := by decide +kernel
theorem d_Su_take_3 : decode prog_3_method_6_code 3 = .ok (.aload_n 0, 1) := by decide +kernel
theorem d_Su_take_4 : decode prog_3_method_6_code 4 = .ok (.getfield 24, 3) := by decide +kernel
theorem d_Su_take_7 : decode prog_3_method_6_code 7 = .ok (.if_icmp .ge 19, 3) := by decide +kernel
theorem d_Su_take_10 : decode prog_3_method_6_code 10 = .ok (.aload_n 0, 1) := by decide +kernel
theorem d_Su_take_11 : decode prog_3_method_6_code 11 = .ok (.getfield 9, 3) := by decide +kernel
theorem d_Su_take_14 : decode prog_3_method_6_code 14 = .ok (.iload_n 3, 1) := by decide +kernel
theorem d_Su_take_15 : decode prog_3_method_6_code 15 = .ok (.iaload, 1) := by decide +kernel
theorem d_Su_take_16 : decode prog_3_method_6_code 16 = .ok (.iload_n 1, 1) := by decide +kernel
theorem d_Su_take_17 : decode prog_3_method_6_code 17 = .ok (.if_icmp .ge 9, 3) := by decide +kernel
theorem d_Su_take_20 : decode prog_3_method_6_code 20 = .ok (.iinc 3 1, 3) := by decide +kernel
theorem d_Su_take_23 : decode prog_3_method_6_code 23 = .ok (.goto (-21), 3) := by decide +kernel
theorem d_Su_take_26 : decode prog_3_method_6_code 26 = .ok (.iload_n 3, 1) := by decide +kernel
theorem d_Su_take_27 : decode prog_3_method_6_code 27 = .ok (.aload_n 0, 1) := by decide +kernel
theorem d_Su_take_28 : decode prog_3_method_6_code 28 = .ok (.getfield 24, 3) := by decide +kernel
theorem d_Su_take_31 : decode prog_3_method_6_code 31 = .ok (.if_icmp .ge 27, 3) := by decide +kernel
theorem d_Su_take_34 : decode prog_3_method_6_code 34 = .ok (.aload_n 0, 1) := by decide +kernel
theorem d_Su_take_35 : decode prog_3_method_6_code 35 = .ok (.getfield 9, 3) := by decide +kernel
theorem d_Su_take_38 : decode prog_3_method_6_code 38 = .ok (.iload_n 3, 1) := by decide +kernel
theorem d_Su_take_39 : decode prog_3_method_6_code 39 = .ok (.iaload, 1) := by decide +kernel
theorem d_Su_take_40 : decode prog_3_method_6_code 40 = .ok (.iload_n 1, 1) := by decide +kernel
theorem d_Su_take_41 : decode prog_3_method_6_code 41 = .ok (.if_icmp .ne 17, 3) := by decide +kernel
theorem d_Su_take_44 : decode prog_3_method_6_code 44 = .ok (.aload_n 0, 1) := by decide +kernel
theorem d_Su_take_45 : decode prog_3_method_6_code 45 = .ok (.iload_n 3, 1) := by decide +kernel
theorem d_Su_take_46 : decode prog_3_method_6_code 46 = .ok (.aload_n 0, 1) := by decide +kernel
theorem d_Su_take_47 : decode prog_3_method_6_code 47 = .ok (.getfield 15, 3) := by decide +kernel
theorem d_Su_take_50 : decode prog_3_method_6_code 50 = .ok (.iload_n 3, 1) := by decide +kernel
theorem d_Su_take_51 : decode prog_3_method_6_code 51 = .ok (.iaload, 1) := by decide +kernel
theorem d_Su_take_52 : decode prog_3_method_6_code 52 = .ok (.iload_n 2, 1) := by decide +kernel
theorem d_Su_take_53 : decode prog_3_method_6_code 53 = .ok (.iadd, 1) := by decide +kernel
theorem d_Su_take_54 : decode prog_3_method_6_code 54 = .ok (.invokevirtual 51, 3) := by decide +kernel
theorem d_Su_take_57 : decode prog_3_method_6_code 57 = .ok (.ireturn, 1) := by decide +kernel
theorem d_Su_take_58 : decode prog_3_method_6_code 58 = .ok (.iload_n 2, 1) := by decide +kernel
theorem d_Su_take_59 : decode prog_3_method_6_code 59 = .ok (.ifCond .ne 5, 3) := by decide +kernel
theorem d_Su_take_62 : decode prog_3_method_6_code 62 = .ok (.iconst 1, 1) := by decide +kernel
theorem d_Su_take_63 : decode prog_3_method_6_code 63 = .ok (.ireturn, 1) := by decide +kernel
theorem d_Su_take_64 : decode prog_3_method_6_code 64 = .ok (.aload_n 0, 1) := by decide +kernel
theorem d_Su_take_65 : decode prog_3_method_6_code 65 = .ok (.getfield 24, 3) := by decide +kernel
theorem d_Su_take_68 : decode prog_3_method_6_code 68 = .ok (.bipush 60, 2) := by decide +kernel
theorem d_Su_take_70 : decode prog_3_method_6_code 70 = .ok (.if_icmp .lt 5, 3) := by decide +kernel
theorem d_Su_take_73 : decode prog_3_method_6_code 73 = .ok (.iconst 0, 1) := by decide +kernel
theorem d_Su_take_74 : decode prog_3_method_6_code 74 = .ok (.ireturn, 1) := by decide +kernel
theorem d_Su_take_75 : decode prog_3_method_6_code 75 = .ok (.aload_n 0, 1) := by decide +kernel
theorem d_Su_take_76 : decode prog_3_method_6_code 76 = .ok (.iload_n 3, 1) := by decide +kernel
theorem d_Su_take_77 : decode prog_3_method_6_code 77 = .ok (.iload_n 1, 1) := by decide +kernel
theorem d_Su_take_78 : decode prog_3_method_6_code 78 = .ok (.iload_n 2, 1) := by decide +kernel
theorem d_Su_take_79 : decode prog_3_method_6_code 79 = .ok (.invokevirtual 54, 3) := by decide +kernel
theorem d_Su_take_82 : decode prog_3_method_6_code 82 = .ok (.iconst 1, 1) := by decide +kernel
theorem d_Su_take_83 : decode prog_3_method_6_code 83 = .ok (.ireturn, 1) := by decide +kernel
theorem d_Su_upsOf_0 : decode prog_3_method_2_code 0 = .ok (.aload_n 0, 1) := by decide +kernel
theorem d_Su_upsOf_1 : decode prog_3_method_2_code 1 = .ok (.getfield 9, 3) := by decide +kernel
theorem d_Su_upsOf_4 : decode prog_3_method_2_code 4 = .ok (.iload_n 1, 1) := by decide +kernel
theorem d_Su_upsOf_5 : decode prog_3_method_2_code 5 = .ok (.iaload, 1) := by decide +kernel
theorem d_Su_upsOf_6 : decode prog_3_method_2_code 6 = .ok (.bipush 8, 2) := by decide +kernel
theorem d_Su_upsOf_8 : decode prog_3_method_2_code 8 = .ok (.ishr, 1) := by decide +kernel
theorem d_Su_upsOf_9 : decode prog_3_method_2_code 9 = .ok (.ireturn, 1) := by decide +kernel
theorem d_Su_downsOf_0 : decode prog_3_method_3_code 0 = .ok (.aload_n 0, 1) := by decide +kernel
theorem d_Su_downsOf_1 : decode prog_3_method_3_code 1 = .ok (.getfield 9, 3) := by decide +kernel
theorem d_Su_downsOf_4 : decode prog_3_method_3_code 4 = .ok (.iload_n 1, 1) := by decide +kernel
theorem d_Su_downsOf_5 : decode prog_3_method_3_code 5 = .ok (.iaload, 1) := by decide +kernel
theorem d_Su_downsOf_6 : decode prog_3_method_3_code 6 = .ok (.sipush 255, 3) := by decide +kernel
theorem d_Su_downsOf_9 : decode prog_3_method_3_code 9 = .ok (.iand, 1) := by decide +kernel
theorem d_Su_downsOf_10 : decode prog_3_method_3_code 10 = .ok (.ireturn, 1) := by decide +kernel
theorem d_Su_between_0 : decode prog_3_method_5_code 0 = .ok (.lconst 0, 1) := by decide +kernel
theorem d_Su_between_1 : decode prog_3_method_5_code 1 = .ok (.lstore_n 3, 1) := by decide +kernel
theorem d_Su_between_2 : decode prog_3_method_5_code 2 = .ok (.iconst 0, 1) := by decide +kernel
theorem d_Su_between_3 : decode prog_3_method_5_code 3 = .ok (.istore 5, 2) := by decide +kernel
theorem d_Su_between_5 : decode prog_3_method_5_code 5 = .ok (.iload 5, 2) := by decide +kernel
theorem d_Su_between_7 : decode prog_3_method_5_code 7 = .ok (.aload_n 0, 1) := by decide +kernel
theorem d_Su_between_8 : decode prog_3_method_5_code 8 = .ok (.getfield 24, 3) := by decide +kernel
theorem d_Su_between_11 : decode prog_3_method_5_code 11 = .ok (.if_icmp .ge 113, 3) := by decide +kernel
theorem d_Su_between_14 : decode prog_3_method_5_code 14 = .ok (.aload_n 0, 1) := by decide +kernel
theorem d_Su_between_15 : decode prog_3_method_5_code 15 = .ok (.iload 5, 2) := by decide +kernel
theorem d_Su_between_17 : decode prog_3_method_5_code 17 = .ok (.invokevirtual 28, 3) := by decide +kernel
theorem d_Su_between_20 : decode prog_3_method_5_code 20 = .ok (.istore 6, 2) := by decide +kernel
theorem d_Su_between_22 : decode prog_3_method_5_code 22 = .ok (.aload_n 0, 1) := by decide +kernel
theorem d_Su_between_23 : decode prog_3_method_5_code 23 = .ok (.iload 5, 2) := by decide +kernel
theorem d_Su_between_25 : decode prog_3_method_5_code 25 = .ok (.invokevirtual 37, 3) := by decide +kernel
theorem d_Su_between_28 : decode prog_3_method_5_code 28 = .ok (.istore 7, 2) := by decide +kernel
theorem d_Su_between_30 : decode prog_3_method_5_code 30 = .ok (.iload_n 1, 1) := by decide +kernel
theorem d_Su_between_31 : decode prog_3_method_5_code 31 = .ok (.iload 6, 2) := by decide +kernel
theorem d_Su_between_33 : decode prog_3_method_5_code 33 = .ok (.iload 7, 2) := by decide +kernel
theorem d_Su_between_35 : decode prog_3_method_5_code 35 = .ok (.ior, 1) := by decide +kernel
theorem d_Su_between_36 : decode prog_3_method_5_code 36 = .ok (.iand, 1) := by decide +kernel
theorem d_Su_between_37 : decode prog_3_method_5_code 37 = .ok (.iload 7, 2) := by decide +kernel
theorem d_Su_between_39 : decode prog_3_method_5_code 39 = .ok (.if_icmp .ne 18, 3) := by decide +kernel
theorem d_Su_between_42 : decode prog_3_method_5_code 42 = .ok (.iload_n 1, 1) := by decide +kernel
theorem d_Su_between_43 : decode prog_3_method_5_code 43 = .ok (.iload 6, 2) := by decide +kernel
theorem d_Su_between_45 : decode prog_3_method_5_code 45 = .ok (.ixor, 1) := by decide +kernel
theorem d_Su_between_46 : decode prog_3_method_5_code 46 = .ok (.iload 7, 2) := by decide +kernel
theorem d_Su_between_48 : decode prog_3_method_5_code 48 = .ok (.ixor, 1) := by decide +kernel
theorem d_Su_between_49 : decode prog_3_method_5_code 49 = .ok (.iload_n 2, 1) := by decide +kernel
theorem d_Su_between_50 : decode prog_3_method_5_code 50 = .ok (.if_icmp .ne 7, 3) := by decide +kernel
theorem d_Su_between_53 : decode prog_3_method_5_code 53 = .ok (.iconst 1, 1) := by decide +kernel
theorem d_Su_between_54 : decode prog_3_method_5_code 54 = .ok (.goto 4, 3) := by decide +kernel
theorem d_Su_between_57 : decode prog_3_method_5_code 57 = .ok (.iconst 0, 1) := by decide +kernel
theorem d_Su_between_58 : decode prog_3_method_5_code 58 = .ok (.istore 8, 2) := by decide +kernel
theorem d_Su_between_60 : decode prog_3_method_5_code 60 = .ok (.iload 8, 2) := by decide +kernel
theorem d_Su_between_62 : decode prog_3_method_5_code 62 = .ok (.ifCond .eq 56, 3) := by decide +kernel
theorem d_Su_between_65 : decode prog_3_method_5_code 65 = .ok (.iload_n 1, 1) := by decide +kernel
theorem d_Su_between_66 : decode prog_3_method_5_code 66 = .ok (.iload 6, 2) := by decide +kernel
theorem d_Su_between_68 : decode prog_3_method_5_code 68 = .ok (.invokestatic 40, 3) := by decide +kernel
theorem d_Su_between_71 : decode prog_3_method_5_code 71 = .ok (.iload 7, 2) := by decide +kernel
theorem d_Su_between_73 : decode prog_3_method_5_code 73 = .ok (.invokestatic 40, 3) := by decide +kernel
theorem d_Su_between_76 : decode prog_3_method_5_code 76 = .ok (.ixor, 1) := by decide +kernel
theorem d_Su_between_77 : decode prog_3_method_5_code 77 = .ok (.iand, 1) := by decide +kernel
theorem d_Su_between_78 : decode prog_3_method_5_code 78 = .ok (.invokestatic 43, 3) := by decide +kernel
theorem d_Su_between_81 : decode prog_3_method_5_code 81 = .ok (.istore 9, 2) := by decide +kernel
theorem d_Su_between_83 : decode prog_3_method_5_code 83 = .ok (.lload_n 3, 1) := by decide +kernel
theorem d_Su_between_84 : decode prog_3_method_5_code 84 = .ok (.iload 9, 2) := by decide +kernel
theorem d_Su_between_86 : decode prog_3_method_5_code 86 = .ok (.iload 6, 2) := by decide +kernel
theorem d_Su_between_88 : decode prog_3_method_5_code 88 = .ok (.iload 7, 2) := by decide +kernel
theorem d_Su_between_90 : decode prog_3_method_5_code 90 = .ok (.invokestatic 47, 3) := by decide +kernel
theorem d_Su_between_93 : decode prog_3_method_5_code 93 = .ok (.if_icmp .eq 15, 3) := by decide +kernel
theorem d_Su_between_96 : decode prog_3_method_5_code 96 = .ok (.aload_n 0, 1) := by decide +kernel
theorem d_Su_between_97 : decode prog_3_method_5_code 97 = .ok (.getfield 15, 3) := by decide +kernel
theorem d_Su_between_100 : decode prog_3_method_5_code 100 = .ok (.iload 5, 2) := by decide +kernel
theorem d_Su_between_102 : decode prog_3_method_5_code 102 = .ok (.iaload, 1) := by decide +kernel
theorem d_Su_between_103 : decode prog_3_method_5_code 103 = .ok (.ineg, 1) := by decide +kernel
theorem d_Su_between_104 : decode prog_3_method_5_code 104 = .ok (.i2l, 1) := by decide +kernel
theorem d_Su_between_105 : decode prog_3_method_5_code 105 = .ok (.goto 11, 3) := by decide +kernel
theorem d_Su_between_108 : decode prog_3_method_5_code 108 = .ok (.aload_n 0, 1) := by decide +kernel
theorem d_Su_between_109 : decode prog_3_method_5_code 109 = .ok (.getfield 15, 3) := by decide +kernel
theorem d_Su_between_112 : decode prog_3_method_5_code 112 = .ok (.iload 5, 2) := by decide +kernel
theorem d_Su_between_114 : decode prog_3_method_5_code 114 = .ok (.iaload, 1) := by decide +kernel
theorem d_Su_between_115 : decode prog_3_method_5_code 115 = .ok (.i2l, 1) := by decide +kernel
theorem d_Su_between_116 : decode prog_3_method_5_code 116 = .ok (.ladd, 1) := by decide +kernel
theorem d_Su_between_117 : decode prog_3_method_5_code 117 = .ok (.lstore_n 3, 1) := by decide +kernel
theorem d_Su_between_118 : decode prog_3_method_5_code 118 = .ok (.iinc 5 1, 3) := by decide +kernel
theorem d_Su_between_121 : decode prog_3_method_5_code 121 = .ok (.goto (-116), 3) := by decide +kernel
theorem d_Su_between_124 : decode prog_3_method_5_code 124 = .ok (.lload_n 3, 1) := by decide +kernel
theorem d_Su_between_125 : decode prog_3_method_5_code 125 = .ok (.lreturn, 1) := by decide +kernel
theorem d_Su_isEven_0 : decode prog_3_method_4_code 0 = .ok (.iconst 0, 1) := by decide +kernel
theorem d_Su_isEven_1 : decode prog_3_method_4_code 1 = .ok (.istore_n 1, 1) := by decide +kernel
theorem d_Su_isEven_2 : decode prog_3_method_4_code 2 = .ok (.iload_n 1, 1) := by decide +kernel
theorem d_Su_isEven_3 : decode prog_3_method_4_code 3 = .ok (.aload_n 0, 1) := by decide +kernel
theorem d_Su_isEven_4 : decode prog_3_method_4_code 4 = .ok (.getfield 24, 3) := by decide +kernel
theorem d_Su_isEven_7 : decode prog_3_method_4_code 7 = .ok (.if_icmp .ge 30, 3) := by decide +kernel
theorem d_Su_isEven_10 : decode prog_3_method_4_code 10 = .ok (.aload_n 0, 1) := by decide +kernel
theorem d_Su_isEven_11 : decode prog_3_method_4_code 11 = .ok (.iload_n 1, 1) := by decide +kernel
theorem d_Su_isEven_12 : decode prog_3_method_4_code 12 = .ok (.invokevirtual 28, 3) := by decide +kernel
theorem d_Su_isEven_15 : decode prog_3_method_4_code 15 = .ok (.invokestatic 32, 3) := by decide +kernel
theorem d_Su_isEven_18 : decode prog_3_method_4_code 18 = .ok (.aload_n 0, 1) := by decide +kernel
theorem d_Su_isEven_19 : decode prog_3_method_4_code 19 = .ok (.iload_n 1, 1) := by decide +kernel
theorem d_Su_isEven_20 : decode prog_3_method_4_code 20 = .ok (.invokevirtual 37, 3) := by decide +kernel
theorem d_Su_isEven_23 : decode prog_3_method_4_code 23 = .ok (.invokestatic 32, 3) := by decide +kernel
theorem d_Su_isEven_26 : decode prog_3_method_4_code 26 = .ok (.if_icmp .eq 5, 3) := by decide +kernel
theorem d_Su_isEven_29 : decode prog_3_method_4_code 29 = .ok (.iconst 0, 1) := by decide +kernel
theorem d_Su_isEven_30 : decode prog_3_method_4_code 30 = .ok (.ireturn, 1) := by decide +kernel
theorem d_Su_isEven_31 : decode prog_3_method_4_code 31 = .ok (.iinc 1 1, 3) := by decide +kernel
theorem d_Su_isEven_34 : decode prog_3_method_4_code 34 = .ok (.goto (-32), 3) := by decide +kernel
theorem d_Su_isEven_37 : decode prog_3_method_4_code 37 = .ok (.iconst 1, 1) := by decide +kernel
theorem d_Su_isEven_38 : decode prog_3_method_4_code 38 = .ok (.ireturn, 1) := by decide +kernel
/-! FermionMaps$Sum.strike(I)V -/
def b_Su_strike_12 (F : Nat) : Nat → Int32 → Int32 → (Nat → Int32) → (Nat → Int32) → Option (Int32 × (Nat → Int32) × (Nat → Int32))
  | 0, _, _, _, _ => none
  | n + 1, x2, count, keys, numbers =>
    if count ≤ x2 then
      some (count, keys, numbers)
    else
      nm ((x2 + 1) : Int32) fun t_3 =>
      ckI t_3 60 <|
      nm ((keys t_3.toNatClampNeg) : Int32) fun t_5 =>
      ckI x2 60 <|
      nm ((x2 + 1) : Int32) fun t_7 =>
      ckI t_7 60 <|
      nm ((numbers t_7.toNatClampNeg) : Int32) fun t_9 =>
      ckI x2 60 <|
      nm (x2 + 1 : Int32) fun x2_11 =>
      b_Su_strike_12 F n x2_11 count (upd keys x2.toNatClampNeg t_5) (upd numbers x2.toNatClampNeg t_9)
def f_Su_strike (F : Nat) (count : Int32) (keys : Nat → Int32) (numbers : Nat → Int32) (p1 : Int32) : Option (Int32 × (Nat → Int32) × (Nat → Int32)) :=
  nm ((count - 1) : Int32) fun count_1 =>
  b_Su_strike_12 F F p1 count_1 keys numbers
abbrev rm_Su_strike : Room := { frames := 0, cells := 0, slots := 0, locals := 0 }
set_option maxHeartbeats 4000000 in
set_option maxRecDepth 100000 in
theorem c_Su_strike (l : Launch) (dC : Nat → ClassId) (dI : Nat → Nat → Nat) (cI cJ : ClassId) (a_p0 a_keys a_numbers z_spareKeys z_spareNumbers : Nat) (sz : Nat) (count : Int32) (keys : Nat → Int32) (numbers : Nat → Int32) (p1 : Int32) (F : Nat) (u : Int32 × (Nat → Int32) × (Nat → Int32)) (hf : f_Su_strike F count keys numbers p1 = some u) : Met l y_Su_strike (Cond.code y_Su_strike prog_3_method_9_code 3 none :: T0) rm_Su_strike (va_Pc [.ref a_p0, .int p1] (Ww (dC, dI) [(a_p0, .inr (1, [.ref a_keys, .ref a_numbers, .ref z_spareKeys, .ref z_spareNumbers, .int count])), (a_keys, .inl (cI, 60, .inl keys)), (a_numbers, .inl (cI, 60, .inl numbers))] [(cI, .int), (cJ, .long)] sz)) (va_Qv (fun _ : Unit => True) (Bw (dC, dI) [(cI, .int), (cJ, .long)] (va_A [(a_p0, .inr (1, [.ref a_keys, .ref a_numbers, .ref z_spareKeys, .ref z_spareNumbers, .int count])), (a_keys, .inl (cI, 60, .inl keys)), (a_numbers, .inl (cI, 60, .inl numbers))] sz) (fun w1 => w1 = [(a_p0, .inr (1, [.ref a_keys, .ref a_numbers, .ref z_spareKeys, .ref z_spareNumbers, .int u.1])), (a_keys, .inl (cI, 60, .inl u.2.1)), (a_numbers, .inl (cI, 60, .inl u.2.2))])) (va_A [(a_p0, .inr (1, [.ref a_keys, .ref a_numbers, .ref z_spareKeys, .ref z_spareNumbers, .int count])), (a_keys, .inl (cI, 60, .inl keys)), (a_numbers, .inl (cI, 60, .inl numbers))] sz)) 0 0 (va_A [(a_p0, .inr (1, [.ref a_keys, .ref a_numbers, .ref z_spareKeys, .ref z_spareNumbers, .int count])), (a_keys, .inl (cI, 60, .inl keys)), (a_numbers, .inl (cI, 60, .inl numbers))] sz) := by
  refine Met.ofW (cc := prog_3_method_9_code) (maxL := 3) (ret := none) (by decide) rfl ?_
  intro p e s m args below meth c s₁ B hml hv
  obtain ⟨rfl, hsz, hP, hK, hD0, hNW⟩ := hv
  have hx := B.exec
  have hb := B.bytes
  have hr := B.returns
  have hts := atoms_spec (ws := Cond.code y_Su_strike prog_3_method_9_code 3 none :: T0) B.pre
  have ht0 : ∀ w ∈ T0, w.before ([.ref a_p0, .int p1] : List Value).toArray s = true := fun w h => hts w (List.mem_cons_of_mem _ h)
  have hown : s.vm.findClass "FermionMaps$Sum" = some m.cls := findClass_of_methodNamed B.named
  have hlocks := B.notSynchronized
  subst hsz
  have hD := hD0.self (sz := s.heap.size)
  generalize hAe : va_A [(a_p0, .inr (1, [.ref a_keys, .ref a_numbers, .ref z_spareKeys, .ref z_spareNumbers, .int count])), (a_keys, .inl (cI, 60, .inl keys)), (a_numbers, .inl (cI, 60, .inl numbers))] s.heap.size = A at hD ⊢
  have hA : ∀ q : Nat, s.heap.size ≤ q → A q := fun q h => by rw [← hAe]; exact Or.inr h
  have hS : va_S A s.heap s.heap [] := va_S.rf
  have hl := lv_entry ([.ref a_p0, .int p1]) (n := 3) (Nat.le_of_ble_eq_true rfl)
  rw [lg_entry_eq]
  generalize (lg_sl ([.ref a_p0, .int p1]) ++ List.replicate (3 - (lg_sl ([.ref a_p0, .int p1])).length) Slot.unset).toArray = ls at hl ⊢
  have hl : lv_has ls 3 [(0, .ref a_p0), (1, .int p1)] := hl
  refine W.nameQ (fun Q hQ => ?_)
  have B_12 : ∀ (n : Nat), ∀ (x2 : Int32) (count : Int32) (keys : Nat → Int32) (numbers : Nat → Int32) (H : Heap) (locs : List Loc) (ls : Array Slot), b_Su_strike_12 F n x2 count keys numbers = some u → va_P (dC, dI) cls [(a_p0, .inr (1, [.ref a_keys, .ref a_numbers, .ref z_spareKeys, .ref z_spareNumbers, .int count])), (a_keys, .inl (cI, 60, .inl keys)), (a_numbers, .inl (cI, 60, .inl numbers))] H → va_D A [(a_p0, .inr (1, [.ref a_keys, .ref a_numbers, .ref z_spareKeys, .ref z_spareNumbers, .int count])), (a_keys, .inl (cI, 60, .inl keys)), (a_numbers, .inl (cI, 60, .inl numbers))] → va_S A s.heap H locs → lv_has ls 3 [(0, .ref a_p0), (2, .int x2)] → W p l e (headSpec (Cond.code y_Su_strike prog_3_method_9_code 3 none :: T0) rm_Su_strike).room s m ([.ref a_p0, .int p1] : List Value).toArray below meth c H locs 0 0 Q (F0 m 12 ls []) := by
    intro n
    induction n with
    | zero =>
      intro x2 count keys numbers H locs ls hf hP hD hS hl
      exact no_fuel hf
    | succ n ih =>
      intro x2 count keys numbers H locs ls hf hP hD hS hl
      rw [b_Su_strike_12] at hf
      refine lv_iload_n hx hb d_Su_strike_12 rfl (lv_at hl 1 rfl) ?_
      refine lv_aload_n hx hb d_Su_strike_13 rfl (lv_at hl 0 rfl) ?_
      refine va_get (D := (dC, dI)) (ci := 1) (v := .int count) (C := "FermionMaps$Sum") (T := F_Su) (N := 5) hx hb ht0 i_Su hown hK hP 0 rfl rfl 4 (by decide) (ht0 _ m_32) (fun _ h9 => h9) rfl d_Su_strike_14 ?_
      refine lv_icmp_ge (tgt := 54) hx hb d_Su_strike_17 (by decide) (fun c_2 => ?_) (fun c_2 => ?_)
      · replace hf := if_t c_2 hf
        have hu := Option.some.inj hf
        subst hu
        exact rw_v hQ rfl hP hD hK hS hx hb hr hlocks d_Su_strike_54
      · replace hf := if_f c_2 hf
        refine lv_aload_n hx hb d_Su_strike_20 rfl (lv_at hl 0 rfl) ?_
        refine va_get (D := (dC, dI)) (ci := 1) (v := .ref a_keys) (C := "FermionMaps$Sum") (T := F_Su) (N := 5) hx hb ht0 i_Su hown hK hP 0 rfl rfl 0 (by decide) (ht0 _ m_26) (fun _ h9 => h9) rfl d_Su_strike_21 ?_
        refine lv_iload_n hx hb d_Su_strike_24 rfl (lv_at hl 1 rfl) ?_
        refine lv_aload_n hx hb d_Su_strike_25 rfl (lv_at hl 0 rfl) ?_
        refine va_get (D := (dC, dI)) (ci := 1) (v := .ref a_keys) (C := "FermionMaps$Sum") (T := F_Su) (N := 5) hx hb ht0 i_Su hown hK hP 0 rfl rfl 0 (by decide) (ht0 _ m_26) (fun _ h9 => h9) rfl d_Su_strike_26 ?_
        refine lv_iload_n hx hb d_Su_strike_29 rfl (lv_at hl 1 rfl) ?_
        refine lv_iconst (v := 1) hx hb d_Su_strike_30 (by decide) ?_
        refine lv_iadd hx hb d_Su_strike_31 ?_
        refine lv_topi (fun t_3 e_t_3 => ?_)
        replace hf := nm_eq e_t_3 hf
        obtain ⟨hi_4, hf⟩ := ckI_ok hf
        refine va_iald hx hb hK hP 1 0 rfl rfl hi_4 d_Su_strike_32 ?_
        refine lv_topi (fun t_5 e_t_5 => ?_)
        replace hf := nm_eq e_t_5 hf
        obtain ⟨hi_6, hf⟩ := ckI_ok hf
        refine va_iast hx hb hK hP hD hS 1 0 rfl rfl hi_6 d_Su_strike_33 (fun H locs hP hD hS => ?_)
        have hP : va_P (dC, dI) cls [(a_p0, .inr (1, [.ref a_keys, .ref a_numbers, .ref z_spareKeys, .ref z_spareNumbers, .int count])), (a_keys, .inl (cI, 60, .inl (upd keys x2.toNatClampNeg t_5))), (a_numbers, .inl (cI, 60, .inl numbers))] H := hP
        have hD : va_D A [(a_p0, .inr (1, [.ref a_keys, .ref a_numbers, .ref z_spareKeys, .ref z_spareNumbers, .int count])), (a_keys, .inl (cI, 60, .inl (upd keys x2.toNatClampNeg t_5))), (a_numbers, .inl (cI, 60, .inl numbers))] := hD
        refine lv_aload_n hx hb d_Su_strike_34 rfl (lv_at hl 0 rfl) ?_
        refine va_get (D := (dC, dI)) (ci := 1) (v := .ref a_numbers) (C := "FermionMaps$Sum") (T := F_Su) (N := 5) hx hb ht0 i_Su hown hK hP 0 rfl rfl 1 (by decide) (ht0 _ m_27) (fun _ h9 => h9) rfl d_Su_strike_35 ?_
        refine lv_iload_n hx hb d_Su_strike_38 rfl (lv_at hl 1 rfl) ?_
        refine lv_aload_n hx hb d_Su_strike_39 rfl (lv_at hl 0 rfl) ?_
        refine va_get (D := (dC, dI)) (ci := 1) (v := .ref a_numbers) (C := "FermionMaps$Sum") (T := F_Su) (N := 5) hx hb ht0 i_Su hown hK hP 0 rfl rfl 1 (by decide) (ht0 _ m_27) (fun _ h9 => h9) rfl d_Su_strike_40 ?_
        refine lv_iload_n hx hb d_Su_strike_43 rfl (lv_at hl 1 rfl) ?_
        refine lv_iconst (v := 1) hx hb d_Su_strike_44 (by decide) ?_
        refine lv_iadd hx hb d_Su_strike_45 ?_
        refine lv_topi (fun t_7 e_t_7 => ?_)
        replace hf := nm_eq e_t_7 hf
        obtain ⟨hi_8, hf⟩ := ckI_ok hf
        refine va_iald hx hb hK hP 2 0 rfl rfl hi_8 d_Su_strike_46 ?_
        refine lv_topi (fun t_9 e_t_9 => ?_)
        replace hf := nm_eq e_t_9 hf
        obtain ⟨hi_10, hf⟩ := ckI_ok hf
        refine va_iast hx hb hK hP hD hS 2 0 rfl rfl hi_10 d_Su_strike_47 (fun H locs hP hD hS => ?_)
        have hP : va_P (dC, dI) cls [(a_p0, .inr (1, [.ref a_keys, .ref a_numbers, .ref z_spareKeys, .ref z_spareNumbers, .int count])), (a_keys, .inl (cI, 60, .inl (upd keys x2.toNatClampNeg t_5))), (a_numbers, .inl (cI, 60, .inl (upd numbers x2.toNatClampNeg t_9)))] H := hP
        have hD : va_D A [(a_p0, .inr (1, [.ref a_keys, .ref a_numbers, .ref z_spareKeys, .ref z_spareNumbers, .int count])), (a_keys, .inl (cI, 60, .inl (upd keys x2.toNatClampNeg t_5))), (a_numbers, .inl (cI, 60, .inl (upd numbers x2.toNatClampNeg t_9)))] := hD
        obtain ⟨x2_11, e_x2_11⟩ : ∃ y : Int32, y = x2 + 1 := ⟨_, rfl⟩
        replace hf := nm_eq e_x2_11 hf
        refine lv_iinc (v := x2_11) (lv' := [(2, .int x2_11), (0, .ref a_p0)]) hx hb d_Su_strike_48 hl (k := 1) rfl (by rw [e_x2_11]; rfl) (by decide) rfl (fun ls hl => ?_)
        refine lv_goto (tgt := 12) hx hb d_Su_strike_51 (by decide) ?_
        exact ih x2_11 count (upd keys x2.toNatClampNeg t_5) (upd numbers x2.toNatClampNeg t_9) H locs ls hf hP hD hS (lv_sub hl [1, 0] rfl)
  rw [f_Su_strike] at hf
  refine lv_aload_n hx hb d_Su_strike_0 rfl (lv_at hl 0 rfl) ?_
  refine lv_dup hx hb d_Su_strike_1 rfl ?_
  refine va_get (D := (dC, dI)) (ci := 1) (v := .int count) (C := "FermionMaps$Sum") (T := F_Su) (N := 5) hx hb ht0 i_Su hown hK hP 0 rfl rfl 4 (by decide) (ht0 _ m_32) (fun _ h9 => h9) rfl d_Su_strike_2 ?_
  refine lv_iconst (v := 1) hx hb d_Su_strike_5 (by decide) ?_
  refine lv_isub hx hb d_Su_strike_6 ?_
  refine lv_topi (fun count_1 e_count_1 => ?_)
  replace hf := nm_eq e_count_1 hf
  refine va_put (D := (dC, dI)) (ci := 1) (v := .int count_1) (ty := .int) (C := "FermionMaps$Sum") (T := F_Su) (N := 5) hx hb ht0 i_Su t_Su t_Su_ok n_Su hown hK hP hD hS 0 rfl rfl 4 (by decide) (ht0 _ m_32) (fun _ h9 => h9) rfl (by decide +kernel) rfl rfl (Nat.le_of_ble_eq_true rfl) d_Su_strike_7 (fun H locs hP hD hS => ?_)
  have hP : va_P (dC, dI) cls [(a_p0, .inr (1, [.ref a_keys, .ref a_numbers, .ref z_spareKeys, .ref z_spareNumbers, .int count_1])), (a_keys, .inl (cI, 60, .inl keys)), (a_numbers, .inl (cI, 60, .inl numbers))] H := hP
  have hD : va_D A [(a_p0, .inr (1, [.ref a_keys, .ref a_numbers, .ref z_spareKeys, .ref z_spareNumbers, .int count_1])), (a_keys, .inl (cI, 60, .inl keys)), (a_numbers, .inl (cI, 60, .inl numbers))] := hD
  refine lv_iload_n hx hb d_Su_strike_10 rfl (lv_at hl 1 rfl) ?_
  refine lv_istore_n (lv' := [(2, .int p1), (0, .ref a_p0), (1, .int p1)]) hx hb d_Su_strike_11 rfl hl (by decide) rfl (fun ls hl => ?_)
  exact B_12 F p1 count_1 keys numbers H locs ls hf hP hD hS (lv_sub hl [1, 0] rfl)

/-! FermionMaps$Sum.change(II)Z -/
def f_Su_change (F : Nat) (count : Int32) (keys : Nat → Int32) (numbers : Nat → Int32) (p1 : Int32) (p2 : Int32) : Option (Int32 × Int32 × (Nat → Int32) × (Nat → Int32)) :=
  (f_FM_isBeyond F p2).bind fun u_1 =>
  if u_1 = 0 then
    if p2 = 0 then
      (f_Su_strike F count keys numbers p1).bind fun u_5 =>
      some (1, u_5.1, u_5.2.1, u_5.2.2)
    else
      ckI p1 60 <|
      some (1, count, keys, (upd numbers p1.toNatClampNeg p2))
  else
    some (0, count, keys, numbers)
abbrev rm_Su_change : Room := { frames := 1, cells := 0, slots := 0, locals := 22 }
set_option maxHeartbeats 4000000 in
set_option maxRecDepth 100000 in
theorem c_Su_change (l : Launch) (dC : Nat → ClassId) (dI : Nat → Nat → Nat) (cI cJ : ClassId) (a_p0 a_keys a_numbers z_spareKeys z_spareNumbers : Nat) (sz : Nat) (count : Int32) (keys : Nat → Int32) (numbers : Nat → Int32) (p1 : Int32) (p2 : Int32) (F : Nat) (u : Int32 × Int32 × (Nat → Int32) × (Nat → Int32)) (hf : f_Su_change F count keys numbers p1 p2 = some u) : Met l y_Su_change (Cond.code y_Su_change prog_3_method_7_code 3 (some .boolean) :: T0) rm_Su_change (va_Pc [.ref a_p0, .int p1, .int p2] (Ww (dC, dI) [(a_p0, .inr (1, [.ref a_keys, .ref a_numbers, .ref z_spareKeys, .ref z_spareNumbers, .int count])), (a_keys, .inl (cI, 60, .inl keys)), (a_numbers, .inl (cI, 60, .inl numbers))] [(cI, .int), (cJ, .long)] sz)) (va_Qi (fun r (_ : Unit) => r = u.1) (Bw (dC, dI) [(cI, .int), (cJ, .long)] (va_A [(a_p0, .inr (1, [.ref a_keys, .ref a_numbers, .ref z_spareKeys, .ref z_spareNumbers, .int count])), (a_keys, .inl (cI, 60, .inl keys)), (a_numbers, .inl (cI, 60, .inl numbers))] sz) (fun w1 => w1 = [(a_p0, .inr (1, [.ref a_keys, .ref a_numbers, .ref z_spareKeys, .ref z_spareNumbers, .int u.2.1])), (a_keys, .inl (cI, 60, .inl u.2.2.1)), (a_numbers, .inl (cI, 60, .inl u.2.2.2))])) (va_A [(a_p0, .inr (1, [.ref a_keys, .ref a_numbers, .ref z_spareKeys, .ref z_spareNumbers, .int count])), (a_keys, .inl (cI, 60, .inl keys)), (a_numbers, .inl (cI, 60, .inl numbers))] sz)) 0 0 (va_A [(a_p0, .inr (1, [.ref a_keys, .ref a_numbers, .ref z_spareKeys, .ref z_spareNumbers, .int count])), (a_keys, .inl (cI, 60, .inl keys)), (a_numbers, .inl (cI, 60, .inl numbers))] sz) := by
  refine Met.ofW (cc := prog_3_method_7_code) (maxL := 3) (ret := (some .boolean)) (by decide) rfl ?_
  intro p e s m args below meth c s₁ B hml hv
  obtain ⟨rfl, hsz, hP, hK, hD0, hNW⟩ := hv
  have hx := B.exec
  have hb := B.bytes
  have hr := B.returns
  have hts := atoms_spec (ws := Cond.code y_Su_change prog_3_method_7_code 3 (some .boolean) :: T0) B.pre
  have ht0 : ∀ w ∈ T0, w.before ([.ref a_p0, .int p1, .int p2] : List Value).toArray s = true := fun w h => hts w (List.mem_cons_of_mem _ h)
  have hown : s.vm.findClass "FermionMaps$Sum" = some m.cls := findClass_of_methodNamed B.named
  have hlocks := B.notSynchronized
  subst hsz
  have hD := hD0.self (sz := s.heap.size)
  generalize hAe : va_A [(a_p0, .inr (1, [.ref a_keys, .ref a_numbers, .ref z_spareKeys, .ref z_spareNumbers, .int count])), (a_keys, .inl (cI, 60, .inl keys)), (a_numbers, .inl (cI, 60, .inl numbers))] s.heap.size = A at hD ⊢
  have hA : ∀ q : Nat, s.heap.size ≤ q → A q := fun q h => by rw [← hAe]; exact Or.inr h
  have hS : va_S A s.heap s.heap [] := va_S.rf
  have hl := lv_entry ([.ref a_p0, .int p1, .int p2]) (n := 3) (Nat.le_of_ble_eq_true rfl)
  rw [lg_entry_eq]
  generalize (lg_sl ([.ref a_p0, .int p1, .int p2]) ++ List.replicate (3 - (lg_sl ([.ref a_p0, .int p1, .int p2])).length) Slot.unset).toArray = ls at hl ⊢
  have hl : lv_has ls 3 [(0, .ref a_p0), (1, .int p1), (2, .int p2)] := hl
  refine W.nameQ (fun Q hQ => ?_)
  rw [f_Su_change] at hf
  refine lv_iload_n hx hb d_Su_change_0 rfl (lv_at hl 2 rfl) ?_
  obtain ⟨u_1, h_u_1, hf⟩ := bd hf
  refine rd_i (rdSN_run (As := [.int p2]) (rest := []) ⟨hx, hb, hml, hown, ht0⟩ (c_FM_isBeyond l dC dI cI cJ p2 F u_1 h_u_1) ⟨va_cnB (host := "FermionMaps") 1 ht0 (gC m_155) rfl rfl rfl (nw_Su_58 hNW) (ht0 _ m_1) (by decide +kernel) ⟨Nat.le_of_ble_eq_true rfl, Nat.le_of_ble_eq_true rfl⟩, ht0 _ m_154, trivial⟩ hK hNW hP [] rfl  rfl hl.1 rfl (Nat.le_of_ble_eq_true rfl) d_Su_change_1 ⟨Nat.zero_le _, Nat.zero_le _⟩) ?_
  refine lv_if_eq (tgt := 9) hx hb d_Su_change_4 (by decide) (fun c_2 => ?_) (fun c_2 => ?_)
  · replace hf := if_t c_2 hf
    refine lv_iload_n hx hb d_Su_change_9 rfl (lv_at hl 2 rfl) ?_
    refine lv_if_ne (tgt := 21) hx hb d_Su_change_10 (by decide) (fun c_3 => ?_) (fun c_3 => ?_)
    · replace hf := if_f c_3 hf
      refine lv_aload_n hx hb d_Su_change_21 rfl (lv_at hl 0 rfl) ?_
      refine va_get (D := (dC, dI)) (ci := 1) (v := .ref a_numbers) (C := "FermionMaps$Sum") (T := F_Su) (N := 5) hx hb ht0 i_Su hown hK hP 0 rfl rfl 1 (by decide) (ht0 _ m_27) (fun _ h9 => h9) rfl d_Su_change_22 ?_
      refine lv_iload_n hx hb d_Su_change_25 rfl (lv_at hl 1 rfl) ?_
      refine lv_iload_n hx hb d_Su_change_26 rfl (lv_at hl 2 rfl) ?_
      obtain ⟨hi_4, hf⟩ := ckI_ok hf
      refine va_iast hx hb hK hP hD hS 2 0 rfl rfl hi_4 d_Su_change_27 (fun H locs hP hD hS => ?_)
      have hP : va_P (dC, dI) cls [(a_p0, .inr (1, [.ref a_keys, .ref a_numbers, .ref z_spareKeys, .ref z_spareNumbers, .int count])), (a_keys, .inl (cI, 60, .inl keys)), (a_numbers, .inl (cI, 60, .inl (upd numbers p1.toNatClampNeg p2)))] H := hP
      have hD : va_D A [(a_p0, .inr (1, [.ref a_keys, .ref a_numbers, .ref z_spareKeys, .ref z_spareNumbers, .int count])), (a_keys, .inl (cI, 60, .inl keys)), (a_numbers, .inl (cI, 60, .inl (upd numbers p1.toNatClampNeg p2)))] := hD
      refine lv_iconst (v := 1) hx hb d_Su_change_28 (by decide) ?_
      have hu := Option.some.inj hf
      subst hu
      exact rw_z hQ rfl rfl rfl hP hD hK hS hx hb hr hlocks d_Su_change_29
    · replace hf := if_t c_3 hf
      refine lv_aload_n hx hb d_Su_change_13 rfl (lv_at hl 0 rfl) ?_
      refine lv_iload_n hx hb d_Su_change_14 rfl (lv_at hl 1 rfl) ?_
      obtain ⟨u_5, h_u_5, hf⟩ := bd hf
      refine wr_v (wr := []) (wrV_run (As := [.int p1]) (rest := []) ⟨hx, hb, hml, hown, ht0⟩ (c_Su_strike l dC dI cI cJ a_p0 a_keys a_numbers z_spareKeys z_spareNumbers s.heap.size count keys numbers p1 F u_5 h_u_5) (cwV 1 ht0 (gV m_167 m_168 m_169 m_2 m_170) rfl rfl rfl (by decide +kernel) ⟨Nat.le_of_ble_eq_true rfl, Nat.le_of_ble_eq_true rfl⟩) hK hNW hP hD [0, 1, 2] rfl rfl (by decide) (ci := 1) (q0 := 0) rfl rfl rfl hl.1 rfl (Nat.le_of_ble_eq_true rfl) d_Su_change_15 ⟨Nat.zero_le _, Nat.zero_le _⟩) hP hD hS hA [0, 1, 2] [] rfl rfl (by decide) (by decide) (fun w1 H locs hw hP hD hS => ?_)
      obtain rfl := hw
      have hP : va_P (dC, dI) cls [(a_p0, .inr (1, [.ref a_keys, .ref a_numbers, .ref z_spareKeys, .ref z_spareNumbers, .int u_5.1])), (a_keys, .inl (cI, 60, .inl u_5.2.1)), (a_numbers, .inl (cI, 60, .inl u_5.2.2))] H := hP.sub [0, 1, 2] rfl
      have hD : va_D A [(a_p0, .inr (1, [.ref a_keys, .ref a_numbers, .ref z_spareKeys, .ref z_spareNumbers, .int u_5.1])), (a_keys, .inl (cI, 60, .inl u_5.2.1)), (a_numbers, .inl (cI, 60, .inl u_5.2.2))] := hD.sub [0, 1, 2] (by decide) rfl
      refine lv_goto (tgt := 28) hx hb d_Su_change_18 (by decide) ?_
      refine lv_iconst (v := 1) hx hb d_Su_change_28 (by decide) ?_
      have hu := Option.some.inj hf
      subst hu
      exact rw_z hQ rfl rfl rfl hP hD hK hS hx hb hr hlocks d_Su_change_29
  · replace hf := if_f c_2 hf
    refine lv_iconst (v := 0) hx hb d_Su_change_7 (by decide) ?_
    have hu := Option.some.inj hf
    subst hu
    exact rw_z hQ rfl rfl rfl hP hD hK hS hx hb hr hlocks d_Su_change_8

/-! FermionMaps$Sum.insert(III)V -/
def b_Su_insert_6 (F : Nat) : Nat → Int32 → Int32 → Int32 → Int32 → Int32 → (Nat → Int32) → (Nat → Int32) → Option (Int32 × (Nat → Int32) × (Nat → Int32))
  | 0, _, _, _, _, _, _, _ => none
  | n + 1, x1, x2, x3, x4, count, keys, numbers =>
    if x4 ≤ x1 then
      ckI x1 60 <|
      ckI x1 60 <|
      nm ((count + 1) : Int32) fun count_4 =>
      some (count_4, (upd keys x1.toNatClampNeg x2), (upd numbers x1.toNatClampNeg x3))
    else
      nm ((x4 - 1) : Int32) fun t_5 =>
      ckI t_5 60 <|
      nm ((keys t_5.toNatClampNeg) : Int32) fun t_7 =>
      ckI x4 60 <|
      nm ((x4 - 1) : Int32) fun t_9 =>
      ckI t_9 60 <|
      nm ((numbers t_9.toNatClampNeg) : Int32) fun t_11 =>
      ckI x4 60 <|
      nm (x4 + (-1) : Int32) fun x4_13 =>
      b_Su_insert_6 F n x1 x2 x3 x4_13 count (upd keys x4.toNatClampNeg t_7) (upd numbers x4.toNatClampNeg t_11)
def f_Su_insert (F : Nat) (count : Int32) (keys : Nat → Int32) (numbers : Nat → Int32) (p1 : Int32) (p2 : Int32) (p3 : Int32) : Option (Int32 × (Nat → Int32) × (Nat → Int32)) :=
  b_Su_insert_6 F F p1 p2 p3 count count keys numbers
abbrev rm_Su_insert : Room := { frames := 0, cells := 0, slots := 0, locals := 0 }
set_option maxHeartbeats 4000000 in
set_option maxRecDepth 100000 in
theorem c_Su_insert (l : Launch) (dC : Nat → ClassId) (dI : Nat → Nat → Nat) (cI cJ : ClassId) (a_p0 a_keys a_numbers z_spareKeys z_spareNumbers : Nat) (sz : Nat) (count : Int32) (keys : Nat → Int32) (numbers : Nat → Int32) (p1 : Int32) (p2 : Int32) (p3 : Int32) (F : Nat) (u : Int32 × (Nat → Int32) × (Nat → Int32)) (hf : f_Su_insert F count keys numbers p1 p2 p3 = some u) : Met l y_Su_insert (Cond.code y_Su_insert prog_3_method_8_code 5 none :: T0) rm_Su_insert (va_Pc [.ref a_p0, .int p1, .int p2, .int p3] (Ww (dC, dI) [(a_p0, .inr (1, [.ref a_keys, .ref a_numbers, .ref z_spareKeys, .ref z_spareNumbers, .int count])), (a_keys, .inl (cI, 60, .inl keys)), (a_numbers, .inl (cI, 60, .inl numbers))] [(cI, .int), (cJ, .long)] sz)) (va_Qv (fun _ : Unit => True) (Bw (dC, dI) [(cI, .int), (cJ, .long)] (va_A [(a_p0, .inr (1, [.ref a_keys, .ref a_numbers, .ref z_spareKeys, .ref z_spareNumbers, .int count])), (a_keys, .inl (cI, 60, .inl keys)), (a_numbers, .inl (cI, 60, .inl numbers))] sz) (fun w1 => w1 = [(a_p0, .inr (1, [.ref a_keys, .ref a_numbers, .ref z_spareKeys, .ref z_spareNumbers, .int u.1])), (a_keys, .inl (cI, 60, .inl u.2.1)), (a_numbers, .inl (cI, 60, .inl u.2.2))])) (va_A [(a_p0, .inr (1, [.ref a_keys, .ref a_numbers, .ref z_spareKeys, .ref z_spareNumbers, .int count])), (a_keys, .inl (cI, 60, .inl keys)), (a_numbers, .inl (cI, 60, .inl numbers))] sz)) 0 0 (va_A [(a_p0, .inr (1, [.ref a_keys, .ref a_numbers, .ref z_spareKeys, .ref z_spareNumbers, .int count])), (a_keys, .inl (cI, 60, .inl keys)), (a_numbers, .inl (cI, 60, .inl numbers))] sz) := by
  refine Met.ofW (cc := prog_3_method_8_code) (maxL := 5) (ret := none) (by decide) rfl ?_
  intro p e s m args below meth c s₁ B hml hv
  obtain ⟨rfl, hsz, hP, hK, hD0, hNW⟩ := hv
  have hx := B.exec
  have hb := B.bytes
  have hr := B.returns
  have hts := atoms_spec (ws := Cond.code y_Su_insert prog_3_method_8_code 5 none :: T0) B.pre
  have ht0 : ∀ w ∈ T0, w.before ([.ref a_p0, .int p1, .int p2, .int p3] : List Value).toArray s = true := fun w h => hts w (List.mem_cons_of_mem _ h)
  have hown : s.vm.findClass "FermionMaps$Sum" = some m.cls := findClass_of_methodNamed B.named
  have hlocks := B.notSynchronized
  subst hsz
  have hD := hD0.self (sz := s.heap.size)
  generalize hAe : va_A [(a_p0, .inr (1, [.ref a_keys, .ref a_numbers, .ref z_spareKeys, .ref z_spareNumbers, .int count])), (a_keys, .inl (cI, 60, .inl keys)), (a_numbers, .inl (cI, 60, .inl numbers))] s.heap.size = A at hD ⊢
  have hA : ∀ q : Nat, s.heap.size ≤ q → A q := fun q h => by rw [← hAe]; exact Or.inr h
  have hS : va_S A s.heap s.heap [] := va_S.rf
  have hl := lv_entry ([.ref a_p0, .int p1, .int p2, .int p3]) (n := 5) (Nat.le_of_ble_eq_true rfl)
  rw [lg_entry_eq]
  generalize (lg_sl ([.ref a_p0, .int p1, .int p2, .int p3]) ++ List.replicate (5 - (lg_sl ([.ref a_p0, .int p1, .int p2, .int p3])).length) Slot.unset).toArray = ls at hl ⊢
  have hl : lv_has ls 5 [(0, .ref a_p0), (1, .int p1), (2, .int p2), (3, .int p3)] := hl
  refine W.nameQ (fun Q hQ => ?_)
  have B_6 : ∀ (n : Nat), ∀ (x1 : Int32) (x2 : Int32) (x3 : Int32) (x4 : Int32) (count : Int32) (keys : Nat → Int32) (numbers : Nat → Int32) (H : Heap) (locs : List Loc) (ls : Array Slot), b_Su_insert_6 F n x1 x2 x3 x4 count keys numbers = some u → va_P (dC, dI) cls [(a_p0, .inr (1, [.ref a_keys, .ref a_numbers, .ref z_spareKeys, .ref z_spareNumbers, .int count])), (a_keys, .inl (cI, 60, .inl keys)), (a_numbers, .inl (cI, 60, .inl numbers))] H → va_D A [(a_p0, .inr (1, [.ref a_keys, .ref a_numbers, .ref z_spareKeys, .ref z_spareNumbers, .int count])), (a_keys, .inl (cI, 60, .inl keys)), (a_numbers, .inl (cI, 60, .inl numbers))] → va_S A s.heap H locs → lv_has ls 5 [(0, .ref a_p0), (1, .int x1), (2, .int x2), (3, .int x3), (4, .int x4)] → W p l e (headSpec (Cond.code y_Su_insert prog_3_method_8_code 5 none :: T0) rm_Su_insert).room s m ([.ref a_p0, .int p1, .int p2, .int p3] : List Value).toArray below meth c H locs 0 0 Q (F0 m 6 ls []) := by
    intro n
    induction n with
    | zero =>
      intro x1 x2 x3 x4 count keys numbers H locs ls hf hP hD hS hl
      exact no_fuel hf
    | succ n ih =>
      intro x1 x2 x3 x4 count keys numbers H locs ls hf hP hD hS hl
      rw [b_Su_insert_6] at hf
      refine lv_iload hx hb d_Su_insert_6 (lv_at hl 4 rfl) ?_
      refine lv_iload_n hx hb d_Su_insert_8 rfl (lv_at hl 1 rfl) ?_
      refine lv_icmp_le (tgt := 50) hx hb d_Su_insert_9 (by decide) (fun c_1 => ?_) (fun c_1 => ?_)
      · replace hf := if_t c_1 hf
        refine lv_aload_n hx hb d_Su_insert_50 rfl (lv_at hl 0 rfl) ?_
        refine va_get (D := (dC, dI)) (ci := 1) (v := .ref a_keys) (C := "FermionMaps$Sum") (T := F_Su) (N := 5) hx hb ht0 i_Su hown hK hP 0 rfl rfl 0 (by decide) (ht0 _ m_26) (fun _ h9 => h9) rfl d_Su_insert_51 ?_
        refine lv_iload_n hx hb d_Su_insert_54 rfl (lv_at hl 1 rfl) ?_
        refine lv_iload_n hx hb d_Su_insert_55 rfl (lv_at hl 2 rfl) ?_
        obtain ⟨hi_2, hf⟩ := ckI_ok hf
        refine va_iast hx hb hK hP hD hS 1 0 rfl rfl hi_2 d_Su_insert_56 (fun H locs hP hD hS => ?_)
        have hP : va_P (dC, dI) cls [(a_p0, .inr (1, [.ref a_keys, .ref a_numbers, .ref z_spareKeys, .ref z_spareNumbers, .int count])), (a_keys, .inl (cI, 60, .inl (upd keys x1.toNatClampNeg x2))), (a_numbers, .inl (cI, 60, .inl numbers))] H := hP
        have hD : va_D A [(a_p0, .inr (1, [.ref a_keys, .ref a_numbers, .ref z_spareKeys, .ref z_spareNumbers, .int count])), (a_keys, .inl (cI, 60, .inl (upd keys x1.toNatClampNeg x2))), (a_numbers, .inl (cI, 60, .inl numbers))] := hD
        refine lv_aload_n hx hb d_Su_insert_57 rfl (lv_at hl 0 rfl) ?_
        refine va_get (D := (dC, dI)) (ci := 1) (v := .ref a_numbers) (C := "FermionMaps$Sum") (T := F_Su) (N := 5) hx hb ht0 i_Su hown hK hP 0 rfl rfl 1 (by decide) (ht0 _ m_27) (fun _ h9 => h9) rfl d_Su_insert_58 ?_
        refine lv_iload_n hx hb d_Su_insert_61 rfl (lv_at hl 1 rfl) ?_
        refine lv_iload_n hx hb d_Su_insert_62 rfl (lv_at hl 3 rfl) ?_
        obtain ⟨hi_3, hf⟩ := ckI_ok hf
        refine va_iast hx hb hK hP hD hS 2 0 rfl rfl hi_3 d_Su_insert_63 (fun H locs hP hD hS => ?_)
        have hP : va_P (dC, dI) cls [(a_p0, .inr (1, [.ref a_keys, .ref a_numbers, .ref z_spareKeys, .ref z_spareNumbers, .int count])), (a_keys, .inl (cI, 60, .inl (upd keys x1.toNatClampNeg x2))), (a_numbers, .inl (cI, 60, .inl (upd numbers x1.toNatClampNeg x3)))] H := hP
        have hD : va_D A [(a_p0, .inr (1, [.ref a_keys, .ref a_numbers, .ref z_spareKeys, .ref z_spareNumbers, .int count])), (a_keys, .inl (cI, 60, .inl (upd keys x1.toNatClampNeg x2))), (a_numbers, .inl (cI, 60, .inl (upd numbers x1.toNatClampNeg x3)))] := hD
        refine lv_aload_n hx hb d_Su_insert_64 rfl (lv_at hl 0 rfl) ?_
        refine lv_dup hx hb d_Su_insert_65 rfl ?_
        refine va_get (D := (dC, dI)) (ci := 1) (v := .int count) (C := "FermionMaps$Sum") (T := F_Su) (N := 5) hx hb ht0 i_Su hown hK hP 0 rfl rfl 4 (by decide) (ht0 _ m_32) (fun _ h9 => h9) rfl d_Su_insert_66 ?_
        refine lv_iconst (v := 1) hx hb d_Su_insert_69 (by decide) ?_
        refine lv_iadd hx hb d_Su_insert_70 ?_
        refine lv_topi (fun count_4 e_count_4 => ?_)
        replace hf := nm_eq e_count_4 hf
        refine va_put (D := (dC, dI)) (ci := 1) (v := .int count_4) (ty := .int) (C := "FermionMaps$Sum") (T := F_Su) (N := 5) hx hb ht0 i_Su t_Su t_Su_ok n_Su hown hK hP hD hS 0 rfl rfl 4 (by decide) (ht0 _ m_32) (fun _ h9 => h9) rfl (by decide +kernel) rfl rfl (Nat.le_of_ble_eq_true rfl) d_Su_insert_71 (fun H locs hP hD hS => ?_)
        have hP : va_P (dC, dI) cls [(a_p0, .inr (1, [.ref a_keys, .ref a_numbers, .ref z_spareKeys, .ref z_spareNumbers, .int count_4])), (a_keys, .inl (cI, 60, .inl (upd keys x1.toNatClampNeg x2))), (a_numbers, .inl (cI, 60, .inl (upd numbers x1.toNatClampNeg x3)))] H := hP
        have hD : va_D A [(a_p0, .inr (1, [.ref a_keys, .ref a_numbers, .ref z_spareKeys, .ref z_spareNumbers, .int count_4])), (a_keys, .inl (cI, 60, .inl (upd keys x1.toNatClampNeg x2))), (a_numbers, .inl (cI, 60, .inl (upd numbers x1.toNatClampNeg x3)))] := hD
        have hu := Option.some.inj hf
        subst hu
        exact rw_v hQ rfl hP hD hK hS hx hb hr hlocks d_Su_insert_74
      · replace hf := if_f c_1 hf
        refine lv_aload_n hx hb d_Su_insert_12 rfl (lv_at hl 0 rfl) ?_
        refine va_get (D := (dC, dI)) (ci := 1) (v := .ref a_keys) (C := "FermionMaps$Sum") (T := F_Su) (N := 5) hx hb ht0 i_Su hown hK hP 0 rfl rfl 0 (by decide) (ht0 _ m_26) (fun _ h9 => h9) rfl d_Su_insert_13 ?_
        refine lv_iload hx hb d_Su_insert_16 (lv_at hl 4 rfl) ?_
        refine lv_aload_n hx hb d_Su_insert_18 rfl (lv_at hl 0 rfl) ?_
        refine va_get (D := (dC, dI)) (ci := 1) (v := .ref a_keys) (C := "FermionMaps$Sum") (T := F_Su) (N := 5) hx hb ht0 i_Su hown hK hP 0 rfl rfl 0 (by decide) (ht0 _ m_26) (fun _ h9 => h9) rfl d_Su_insert_19 ?_
        refine lv_iload hx hb d_Su_insert_22 (lv_at hl 4 rfl) ?_
        refine lv_iconst (v := 1) hx hb d_Su_insert_24 (by decide) ?_
        refine lv_isub hx hb d_Su_insert_25 ?_
        refine lv_topi (fun t_5 e_t_5 => ?_)
        replace hf := nm_eq e_t_5 hf
        obtain ⟨hi_6, hf⟩ := ckI_ok hf
        refine va_iald hx hb hK hP 1 0 rfl rfl hi_6 d_Su_insert_26 ?_
        refine lv_topi (fun t_7 e_t_7 => ?_)
        replace hf := nm_eq e_t_7 hf
        obtain ⟨hi_8, hf⟩ := ckI_ok hf
        refine va_iast hx hb hK hP hD hS 1 0 rfl rfl hi_8 d_Su_insert_27 (fun H locs hP hD hS => ?_)
        have hP : va_P (dC, dI) cls [(a_p0, .inr (1, [.ref a_keys, .ref a_numbers, .ref z_spareKeys, .ref z_spareNumbers, .int count])), (a_keys, .inl (cI, 60, .inl (upd keys x4.toNatClampNeg t_7))), (a_numbers, .inl (cI, 60, .inl numbers))] H := hP
        have hD : va_D A [(a_p0, .inr (1, [.ref a_keys, .ref a_numbers, .ref z_spareKeys, .ref z_spareNumbers, .int count])), (a_keys, .inl (cI, 60, .inl (upd keys x4.toNatClampNeg t_7))), (a_numbers, .inl (cI, 60, .inl numbers))] := hD
        refine lv_aload_n hx hb d_Su_insert_28 rfl (lv_at hl 0 rfl) ?_
        refine va_get (D := (dC, dI)) (ci := 1) (v := .ref a_numbers) (C := "FermionMaps$Sum") (T := F_Su) (N := 5) hx hb ht0 i_Su hown hK hP 0 rfl rfl 1 (by decide) (ht0 _ m_27) (fun _ h9 => h9) rfl d_Su_insert_29 ?_
        refine lv_iload hx hb d_Su_insert_32 (lv_at hl 4 rfl) ?_
        refine lv_aload_n hx hb d_Su_insert_34 rfl (lv_at hl 0 rfl) ?_
        refine va_get (D := (dC, dI)) (ci := 1) (v := .ref a_numbers) (C := "FermionMaps$Sum") (T := F_Su) (N := 5) hx hb ht0 i_Su hown hK hP 0 rfl rfl 1 (by decide) (ht0 _ m_27) (fun _ h9 => h9) rfl d_Su_insert_35 ?_
        refine lv_iload hx hb d_Su_insert_38 (lv_at hl 4 rfl) ?_
        refine lv_iconst (v := 1) hx hb d_Su_insert_40 (by decide) ?_
        refine lv_isub hx hb d_Su_insert_41 ?_
        refine lv_topi (fun t_9 e_t_9 => ?_)
        replace hf := nm_eq e_t_9 hf
        obtain ⟨hi_10, hf⟩ := ckI_ok hf
        refine va_iald hx hb hK hP 2 0 rfl rfl hi_10 d_Su_insert_42 ?_
        refine lv_topi (fun t_11 e_t_11 => ?_)
        replace hf := nm_eq e_t_11 hf
        obtain ⟨hi_12, hf⟩ := ckI_ok hf
        refine va_iast hx hb hK hP hD hS 2 0 rfl rfl hi_12 d_Su_insert_43 (fun H locs hP hD hS => ?_)
        have hP : va_P (dC, dI) cls [(a_p0, .inr (1, [.ref a_keys, .ref a_numbers, .ref z_spareKeys, .ref z_spareNumbers, .int count])), (a_keys, .inl (cI, 60, .inl (upd keys x4.toNatClampNeg t_7))), (a_numbers, .inl (cI, 60, .inl (upd numbers x4.toNatClampNeg t_11)))] H := hP
        have hD : va_D A [(a_p0, .inr (1, [.ref a_keys, .ref a_numbers, .ref z_spareKeys, .ref z_spareNumbers, .int count])), (a_keys, .inl (cI, 60, .inl (upd keys x4.toNatClampNeg t_7))), (a_numbers, .inl (cI, 60, .inl (upd numbers x4.toNatClampNeg t_11)))] := hD
        obtain ⟨x4_13, e_x4_13⟩ : ∃ y : Int32, y = x4 + (-1) := ⟨_, rfl⟩
        replace hf := nm_eq e_x4_13 hf
        refine lv_iinc (v := x4_13) (lv' := [(4, .int x4_13), (0, .ref a_p0), (1, .int x1), (2, .int x2), (3, .int x3)]) hx hb d_Su_insert_44 hl (k := 4) rfl (by rw [e_x4_13]; rfl) (by decide) rfl (fun ls hl => ?_)
        refine lv_goto (tgt := 6) hx hb d_Su_insert_47 (by decide) ?_
        exact ih x1 x2 x3 x4_13 count (upd keys x4.toNatClampNeg t_7) (upd numbers x4.toNatClampNeg t_11) H locs ls hf hP hD hS (lv_sub hl [1, 2, 3, 4, 0] rfl)
  rw [f_Su_insert] at hf
  refine lv_aload_n hx hb d_Su_insert_0 rfl (lv_at hl 0 rfl) ?_
  refine va_get (D := (dC, dI)) (ci := 1) (v := .int count) (C := "FermionMaps$Sum") (T := F_Su) (N := 5) hx hb ht0 i_Su hown hK hP 0 rfl rfl 4 (by decide) (ht0 _ m_32) (fun _ h9 => h9) rfl d_Su_insert_1 ?_
  refine lv_istore (lv' := [(4, .int count), (0, .ref a_p0), (1, .int p1), (2, .int p2), (3, .int p3)]) hx hb d_Su_insert_4 hl (by decide) rfl (fun ls hl => ?_)
  exact B_6 F p1 p2 p3 count count keys numbers s.heap [] ls hf hP hD hS (lv_sub hl [1, 2, 3, 4, 0] rfl)

/-! FermionMaps$Sum.take(II)Z -/
def b_Su_take_58 (F : Nat) (x1 : Int32) (x2 : Int32) (x3 : Int32) (count : Int32) (keys : Nat → Int32) (numbers : Nat → Int32) : Option (Int32 × Int32 × (Nat → Int32) × (Nat → Int32)) :=
  if x2 = 0 then
    some (1, count, keys, numbers)
  else
    if count < 60 then
      (f_Su_insert F count keys numbers x3 x1 x2).bind fun u_5 =>
      some (1, u_5.1, u_5.2.1, u_5.2.2)
    else
      some (0, count, keys, numbers)
def b_Su_take_26 (F : Nat) (x1 : Int32) (x2 : Int32) (x3 : Int32) (count : Int32) (keys : Nat → Int32) (numbers : Nat → Int32) : Option (Int32 × Int32 × (Nat → Int32) × (Nat → Int32)) :=
  if count ≤ x3 then
    b_Su_take_58 F x1 x2 x3 count keys numbers
  else
    ckI x3 60 <|
    if (keys x3.toNatClampNeg) = x1 then
      ckI x3 60 <|
      (f_Su_change F count keys numbers x3 ((numbers x3.toNatClampNeg) + x2)).bind fun u_9 =>
      ckB u_9.1 <|
      some (u_9.1, u_9.2.1, u_9.2.2.1, u_9.2.2.2)
    else
      b_Su_take_58 F x1 x2 x3 count keys numbers
def b_Su_take_2 (F : Nat) : Nat → Int32 → Int32 → Int32 → Int32 → (Nat → Int32) → (Nat → Int32) → Option (Int32 × Int32 × (Nat → Int32) × (Nat → Int32))
  | 0, _, _, _, _, _, _ => none
  | n + 1, x1, x2, x3, count, keys, numbers =>
    if count ≤ x3 then
      b_Su_take_26 F x1 x2 x3 count keys numbers
    else
      ckI x3 60 <|
      if x1 ≤ (keys x3.toNatClampNeg) then
        b_Su_take_26 F x1 x2 x3 count keys numbers
      else
        nm (x3 + 1 : Int32) fun x3_13 =>
        b_Su_take_2 F n x1 x2 x3_13 count keys numbers
def f_Su_take (F : Nat) (count : Int32) (keys : Nat → Int32) (numbers : Nat → Int32) (p1 : Int32) (p2 : Int32) : Option (Int32 × Int32 × (Nat → Int32) × (Nat → Int32)) :=
  b_Su_take_2 F F p1 p2 0 count keys numbers
abbrev rm_Su_take : Room := { frames := 2, cells := 0, slots := 0, locals := 44 }
set_option maxHeartbeats 4000000 in
set_option maxRecDepth 100000 in
theorem c_Su_take (l : Launch) (dC : Nat → ClassId) (dI : Nat → Nat → Nat) (cI cJ : ClassId) (a_p0 a_keys a_numbers z_spareKeys z_spareNumbers : Nat) (sz : Nat) (count : Int32) (keys : Nat → Int32) (numbers : Nat → Int32) (p1 : Int32) (p2 : Int32) (F : Nat) (u : Int32 × Int32 × (Nat → Int32) × (Nat → Int32)) (hf : f_Su_take F count keys numbers p1 p2 = some u) : Met l y_Su_take (Cond.code y_Su_take prog_3_method_6_code 4 (some .boolean) :: T0) rm_Su_take (va_Pc [.ref a_p0, .int p1, .int p2] (Ww (dC, dI) [(a_p0, .inr (1, [.ref a_keys, .ref a_numbers, .ref z_spareKeys, .ref z_spareNumbers, .int count])), (a_keys, .inl (cI, 60, .inl keys)), (a_numbers, .inl (cI, 60, .inl numbers))] [(cI, .int), (cJ, .long)] sz)) (va_Qi (fun r (_ : Unit) => r = u.1) (Bw (dC, dI) [(cI, .int), (cJ, .long)] (va_A [(a_p0, .inr (1, [.ref a_keys, .ref a_numbers, .ref z_spareKeys, .ref z_spareNumbers, .int count])), (a_keys, .inl (cI, 60, .inl keys)), (a_numbers, .inl (cI, 60, .inl numbers))] sz) (fun w1 => w1 = [(a_p0, .inr (1, [.ref a_keys, .ref a_numbers, .ref z_spareKeys, .ref z_spareNumbers, .int u.2.1])), (a_keys, .inl (cI, 60, .inl u.2.2.1)), (a_numbers, .inl (cI, 60, .inl u.2.2.2))])) (va_A [(a_p0, .inr (1, [.ref a_keys, .ref a_numbers, .ref z_spareKeys, .ref z_spareNumbers, .int count])), (a_keys, .inl (cI, 60, .inl keys)), (a_numbers, .inl (cI, 60, .inl numbers))] sz)) 0 0 (va_A [(a_p0, .inr (1, [.ref a_keys, .ref a_numbers, .ref z_spareKeys, .ref z_spareNumbers, .int count])), (a_keys, .inl (cI, 60, .inl keys)), (a_numbers, .inl (cI, 60, .inl numbers))] sz) := by
  refine Met.ofW (cc := prog_3_method_6_code) (maxL := 4) (ret := (some .boolean)) (by decide) rfl ?_
  intro p e s m args below meth c s₁ B hml hv
  obtain ⟨rfl, hsz, hP, hK, hD0, hNW⟩ := hv
  have hx := B.exec
  have hb := B.bytes
  have hr := B.returns
  have hts := atoms_spec (ws := Cond.code y_Su_take prog_3_method_6_code 4 (some .boolean) :: T0) B.pre
  have ht0 : ∀ w ∈ T0, w.before ([.ref a_p0, .int p1, .int p2] : List Value).toArray s = true := fun w h => hts w (List.mem_cons_of_mem _ h)
  have hown : s.vm.findClass "FermionMaps$Sum" = some m.cls := findClass_of_methodNamed B.named
  have hlocks := B.notSynchronized
  subst hsz
  have hD := hD0.self (sz := s.heap.size)
  generalize hAe : va_A [(a_p0, .inr (1, [.ref a_keys, .ref a_numbers, .ref z_spareKeys, .ref z_spareNumbers, .int count])), (a_keys, .inl (cI, 60, .inl keys)), (a_numbers, .inl (cI, 60, .inl numbers))] s.heap.size = A at hD ⊢
  have hA : ∀ q : Nat, s.heap.size ≤ q → A q := fun q h => by rw [← hAe]; exact Or.inr h
  have hS : va_S A s.heap s.heap [] := va_S.rf
  have hl := lv_entry ([.ref a_p0, .int p1, .int p2]) (n := 4) (Nat.le_of_ble_eq_true rfl)
  rw [lg_entry_eq]
  generalize (lg_sl ([.ref a_p0, .int p1, .int p2]) ++ List.replicate (4 - (lg_sl ([.ref a_p0, .int p1, .int p2])).length) Slot.unset).toArray = ls at hl ⊢
  have hl : lv_has ls 4 [(0, .ref a_p0), (1, .int p1), (2, .int p2)] := hl
  refine W.nameQ (fun Q hQ => ?_)
  have B_58 : ∀ (x1 : Int32) (x2 : Int32) (x3 : Int32) (count : Int32) (keys : Nat → Int32) (numbers : Nat → Int32) (H : Heap) (locs : List Loc) (ls : Array Slot), b_Su_take_58 F x1 x2 x3 count keys numbers = some u → va_P (dC, dI) cls [(a_p0, .inr (1, [.ref a_keys, .ref a_numbers, .ref z_spareKeys, .ref z_spareNumbers, .int count])), (a_keys, .inl (cI, 60, .inl keys)), (a_numbers, .inl (cI, 60, .inl numbers))] H → va_D A [(a_p0, .inr (1, [.ref a_keys, .ref a_numbers, .ref z_spareKeys, .ref z_spareNumbers, .int count])), (a_keys, .inl (cI, 60, .inl keys)), (a_numbers, .inl (cI, 60, .inl numbers))] → va_S A s.heap H locs → lv_has ls 4 [(0, .ref a_p0), (1, .int x1), (2, .int x2), (3, .int x3)] → W p l e (headSpec (Cond.code y_Su_take prog_3_method_6_code 4 (some .boolean) :: T0) rm_Su_take).room s m ([.ref a_p0, .int p1, .int p2] : List Value).toArray below meth c H locs 0 0 Q (F0 m 58 ls []) := by
    intro x1 x2 x3 count keys numbers H locs ls hf hP hD hS hl
    rw [b_Su_take_58] at hf
    refine lv_iload_n hx hb d_Su_take_58 rfl (lv_at hl 2 rfl) ?_
    refine lv_if_ne (tgt := 64) hx hb d_Su_take_59 (by decide) (fun c_3 => ?_) (fun c_3 => ?_)
    · replace hf := if_f c_3 hf
      refine lv_aload_n hx hb d_Su_take_64 rfl (lv_at hl 0 rfl) ?_
      refine va_get (D := (dC, dI)) (ci := 1) (v := .int count) (C := "FermionMaps$Sum") (T := F_Su) (N := 5) hx hb ht0 i_Su hown hK hP 0 rfl rfl 4 (by decide) (ht0 _ m_32) (fun _ h9 => h9) rfl d_Su_take_65 ?_
      refine lv_bipush (v := 60) hx hb d_Su_take_68 (by decide) ?_
      refine lv_icmp_lt (tgt := 75) hx hb d_Su_take_70 (by decide) (fun c_4 => ?_) (fun c_4 => ?_)
      · replace hf := if_t c_4 hf
        refine lv_aload_n hx hb d_Su_take_75 rfl (lv_at hl 0 rfl) ?_
        refine lv_iload_n hx hb d_Su_take_76 rfl (lv_at hl 3 rfl) ?_
        refine lv_iload_n hx hb d_Su_take_77 rfl (lv_at hl 1 rfl) ?_
        refine lv_iload_n hx hb d_Su_take_78 rfl (lv_at hl 2 rfl) ?_
        obtain ⟨u_5, h_u_5, hf⟩ := bd hf
        refine wr_v (wr := []) (wrV_run (As := [.int x3, .int x1, .int x2]) (rest := []) ⟨hx, hb, hml, hown, ht0⟩ (c_Su_insert l dC dI cI cJ a_p0 a_keys a_numbers z_spareKeys z_spareNumbers H.size count keys numbers x3 x1 x2 F u_5 h_u_5) (cwV 3 ht0 (gV m_171 m_172 m_173 m_2 m_174) rfl rfl rfl (by decide +kernel) ⟨Nat.le_of_ble_eq_true rfl, Nat.le_of_ble_eq_true rfl⟩) hK hNW hP hD [0, 1, 2] rfl rfl (by decide) (ci := 1) (q0 := 0) rfl rfl rfl hl.1 rfl (Nat.le_of_ble_eq_true rfl) d_Su_take_79 ⟨Nat.zero_le _, Nat.zero_le _⟩) hP hD hS hA [0, 1, 2] [] rfl rfl (by decide) (by decide) (fun w1 H locs hw hP hD hS => ?_)
        obtain rfl := hw
        have hP : va_P (dC, dI) cls [(a_p0, .inr (1, [.ref a_keys, .ref a_numbers, .ref z_spareKeys, .ref z_spareNumbers, .int u_5.1])), (a_keys, .inl (cI, 60, .inl u_5.2.1)), (a_numbers, .inl (cI, 60, .inl u_5.2.2))] H := hP.sub [0, 1, 2] rfl
        have hD : va_D A [(a_p0, .inr (1, [.ref a_keys, .ref a_numbers, .ref z_spareKeys, .ref z_spareNumbers, .int u_5.1])), (a_keys, .inl (cI, 60, .inl u_5.2.1)), (a_numbers, .inl (cI, 60, .inl u_5.2.2))] := hD.sub [0, 1, 2] (by decide) rfl
        refine lv_iconst (v := 1) hx hb d_Su_take_82 (by decide) ?_
        have hu := Option.some.inj hf
        subst hu
        exact rw_z hQ rfl rfl rfl hP hD hK hS hx hb hr hlocks d_Su_take_83
      · replace hf := if_f c_4 hf
        refine lv_iconst (v := 0) hx hb d_Su_take_73 (by decide) ?_
        have hu := Option.some.inj hf
        subst hu
        exact rw_z hQ rfl rfl rfl hP hD hK hS hx hb hr hlocks d_Su_take_74
    · replace hf := if_t c_3 hf
      refine lv_iconst (v := 1) hx hb d_Su_take_62 (by decide) ?_
      have hu := Option.some.inj hf
      subst hu
      exact rw_z hQ rfl rfl rfl hP hD hK hS hx hb hr hlocks d_Su_take_63
  have B_26 : ∀ (x1 : Int32) (x2 : Int32) (x3 : Int32) (count : Int32) (keys : Nat → Int32) (numbers : Nat → Int32) (H : Heap) (locs : List Loc) (ls : Array Slot), b_Su_take_26 F x1 x2 x3 count keys numbers = some u → va_P (dC, dI) cls [(a_p0, .inr (1, [.ref a_keys, .ref a_numbers, .ref z_spareKeys, .ref z_spareNumbers, .int count])), (a_keys, .inl (cI, 60, .inl keys)), (a_numbers, .inl (cI, 60, .inl numbers))] H → va_D A [(a_p0, .inr (1, [.ref a_keys, .ref a_numbers, .ref z_spareKeys, .ref z_spareNumbers, .int count])), (a_keys, .inl (cI, 60, .inl keys)), (a_numbers, .inl (cI, 60, .inl numbers))] → va_S A s.heap H locs → lv_has ls 4 [(0, .ref a_p0), (1, .int x1), (2, .int x2), (3, .int x3)] → W p l e (headSpec (Cond.code y_Su_take prog_3_method_6_code 4 (some .boolean) :: T0) rm_Su_take).room s m ([.ref a_p0, .int p1, .int p2] : List Value).toArray below meth c H locs 0 0 Q (F0 m 26 ls []) := by
    intro x1 x2 x3 count keys numbers H locs ls hf hP hD hS hl
    rw [b_Su_take_26] at hf
    refine lv_iload_n hx hb d_Su_take_26 rfl (lv_at hl 3 rfl) ?_
    refine lv_aload_n hx hb d_Su_take_27 rfl (lv_at hl 0 rfl) ?_
    refine va_get (D := (dC, dI)) (ci := 1) (v := .int count) (C := "FermionMaps$Sum") (T := F_Su) (N := 5) hx hb ht0 i_Su hown hK hP 0 rfl rfl 4 (by decide) (ht0 _ m_32) (fun _ h9 => h9) rfl d_Su_take_28 ?_
    refine lv_icmp_ge (tgt := 58) hx hb d_Su_take_31 (by decide) (fun c_2 => ?_) (fun c_2 => ?_)
    · replace hf := if_t c_2 hf
      exact B_58 x1 x2 x3 count keys numbers H locs ls hf hP hD hS (lv_sub hl [0, 1, 2, 3] rfl)
    · replace hf := if_f c_2 hf
      refine lv_aload_n hx hb d_Su_take_34 rfl (lv_at hl 0 rfl) ?_
      refine va_get (D := (dC, dI)) (ci := 1) (v := .ref a_keys) (C := "FermionMaps$Sum") (T := F_Su) (N := 5) hx hb ht0 i_Su hown hK hP 0 rfl rfl 0 (by decide) (ht0 _ m_26) (fun _ h9 => h9) rfl d_Su_take_35 ?_
      refine lv_iload_n hx hb d_Su_take_38 rfl (lv_at hl 3 rfl) ?_
      obtain ⟨hi_6, hf⟩ := ckI_ok hf
      refine va_iald hx hb hK hP 1 0 rfl rfl hi_6 d_Su_take_39 ?_
      refine lv_iload_n hx hb d_Su_take_40 rfl (lv_at hl 1 rfl) ?_
      refine lv_icmp_ne (tgt := 58) hx hb d_Su_take_41 (by decide) (fun c_7 => ?_) (fun c_7 => ?_)
      · replace hf := if_f c_7 hf
        exact B_58 x1 x2 x3 count keys numbers H locs ls hf hP hD hS (lv_sub hl [0, 1, 2, 3] rfl)
      · replace hf := if_t c_7 hf
        refine lv_aload_n hx hb d_Su_take_44 rfl (lv_at hl 0 rfl) ?_
        refine lv_iload_n hx hb d_Su_take_45 rfl (lv_at hl 3 rfl) ?_
        refine lv_aload_n hx hb d_Su_take_46 rfl (lv_at hl 0 rfl) ?_
        refine va_get (D := (dC, dI)) (ci := 1) (v := .ref a_numbers) (C := "FermionMaps$Sum") (T := F_Su) (N := 5) hx hb ht0 i_Su hown hK hP 0 rfl rfl 1 (by decide) (ht0 _ m_27) (fun _ h9 => h9) rfl d_Su_take_47 ?_
        refine lv_iload_n hx hb d_Su_take_50 rfl (lv_at hl 3 rfl) ?_
        obtain ⟨hi_8, hf⟩ := ckI_ok hf
        refine va_iald hx hb hK hP 2 0 rfl rfl hi_8 d_Su_take_51 ?_
        refine lv_iload_n hx hb d_Su_take_52 rfl (lv_at hl 2 rfl) ?_
        refine lv_iadd hx hb d_Su_take_53 ?_
        obtain ⟨u_9, h_u_9, hf⟩ := bd hf
        refine wr_i (wr := []) (wrV_run (As := [.int x3, .int ((numbers x3.toNatClampNeg) + x2)]) (rest := []) ⟨hx, hb, hml, hown, ht0⟩ (c_Su_change l dC dI cI cJ a_p0 a_keys a_numbers z_spareKeys z_spareNumbers H.size count keys numbers x3 ((numbers x3.toNatClampNeg) + x2) F u_9 h_u_9) (cwV 2 ht0 (gV m_162 m_163 m_164 m_2 m_165) rfl rfl rfl (by decide +kernel) ⟨Nat.le_of_ble_eq_true rfl, Nat.le_of_ble_eq_true rfl⟩) hK hNW hP hD [0, 1, 2] rfl rfl (by decide) (ci := 1) (q0 := 0) rfl rfl rfl hl.1 rfl (Nat.le_of_ble_eq_true rfl) d_Su_take_54 ⟨Nat.zero_le _, Nat.zero_le _⟩) hP hD hS hA [0, 1, 2] [] rfl rfl (by decide) (by decide) (fun w1 H locs hw hP hD hS => ?_)
        obtain rfl := hw
        have hP : va_P (dC, dI) cls [(a_p0, .inr (1, [.ref a_keys, .ref a_numbers, .ref z_spareKeys, .ref z_spareNumbers, .int u_9.2.1])), (a_keys, .inl (cI, 60, .inl u_9.2.2.1)), (a_numbers, .inl (cI, 60, .inl u_9.2.2.2))] H := hP.sub [0, 1, 2] rfl
        have hD : va_D A [(a_p0, .inr (1, [.ref a_keys, .ref a_numbers, .ref z_spareKeys, .ref z_spareNumbers, .int u_9.2.1])), (a_keys, .inl (cI, 60, .inl u_9.2.2.1)), (a_numbers, .inl (cI, 60, .inl u_9.2.2.2))] := hD.sub [0, 1, 2] (by decide) rfl
        obtain ⟨hz_10, hf⟩ := ckB_ok hf
        have hu := Option.some.inj hf
        subst hu
        exact rw_z hQ rfl hz_10 rfl hP hD hK hS hx hb hr hlocks d_Su_take_57
  have B_2 : ∀ (n : Nat), ∀ (x1 : Int32) (x2 : Int32) (x3 : Int32) (count : Int32) (keys : Nat → Int32) (numbers : Nat → Int32) (H : Heap) (locs : List Loc) (ls : Array Slot), b_Su_take_2 F n x1 x2 x3 count keys numbers = some u → va_P (dC, dI) cls [(a_p0, .inr (1, [.ref a_keys, .ref a_numbers, .ref z_spareKeys, .ref z_spareNumbers, .int count])), (a_keys, .inl (cI, 60, .inl keys)), (a_numbers, .inl (cI, 60, .inl numbers))] H → va_D A [(a_p0, .inr (1, [.ref a_keys, .ref a_numbers, .ref z_spareKeys, .ref z_spareNumbers, .int count])), (a_keys, .inl (cI, 60, .inl keys)), (a_numbers, .inl (cI, 60, .inl numbers))] → va_S A s.heap H locs → lv_has ls 4 [(0, .ref a_p0), (1, .int x1), (2, .int x2), (3, .int x3)] → W p l e (headSpec (Cond.code y_Su_take prog_3_method_6_code 4 (some .boolean) :: T0) rm_Su_take).room s m ([.ref a_p0, .int p1, .int p2] : List Value).toArray below meth c H locs 0 0 Q (F0 m 2 ls []) := by
    intro n
    induction n with
    | zero =>
      intro x1 x2 x3 count keys numbers H locs ls hf hP hD hS hl
      exact no_fuel hf
    | succ n ih =>
      intro x1 x2 x3 count keys numbers H locs ls hf hP hD hS hl
      rw [b_Su_take_2] at hf
      refine lv_iload_n hx hb d_Su_take_2 rfl (lv_at hl 3 rfl) ?_
      refine lv_aload_n hx hb d_Su_take_3 rfl (lv_at hl 0 rfl) ?_
      refine va_get (D := (dC, dI)) (ci := 1) (v := .int count) (C := "FermionMaps$Sum") (T := F_Su) (N := 5) hx hb ht0 i_Su hown hK hP 0 rfl rfl 4 (by decide) (ht0 _ m_32) (fun _ h9 => h9) rfl d_Su_take_4 ?_
      refine lv_icmp_ge (tgt := 26) hx hb d_Su_take_7 (by decide) (fun c_1 => ?_) (fun c_1 => ?_)
      · replace hf := if_t c_1 hf
        exact B_26 x1 x2 x3 count keys numbers H locs ls hf hP hD hS (lv_sub hl [0, 1, 2, 3] rfl)
      · replace hf := if_f c_1 hf
        refine lv_aload_n hx hb d_Su_take_10 rfl (lv_at hl 0 rfl) ?_
        refine va_get (D := (dC, dI)) (ci := 1) (v := .ref a_keys) (C := "FermionMaps$Sum") (T := F_Su) (N := 5) hx hb ht0 i_Su hown hK hP 0 rfl rfl 0 (by decide) (ht0 _ m_26) (fun _ h9 => h9) rfl d_Su_take_11 ?_
        refine lv_iload_n hx hb d_Su_take_14 rfl (lv_at hl 3 rfl) ?_
        obtain ⟨hi_11, hf⟩ := ckI_ok hf
        refine va_iald hx hb hK hP 1 0 rfl rfl hi_11 d_Su_take_15 ?_
        refine lv_iload_n hx hb d_Su_take_16 rfl (lv_at hl 1 rfl) ?_
        refine lv_icmp_ge (tgt := 26) hx hb d_Su_take_17 (by decide) (fun c_12 => ?_) (fun c_12 => ?_)
        · replace hf := if_t c_12 hf
          exact B_26 x1 x2 x3 count keys numbers H locs ls hf hP hD hS (lv_sub hl [0, 1, 2, 3] rfl)
        · replace hf := if_f c_12 hf
          obtain ⟨x3_13, e_x3_13⟩ : ∃ y : Int32, y = x3 + 1 := ⟨_, rfl⟩
          replace hf := nm_eq e_x3_13 hf
          refine lv_iinc (v := x3_13) (lv' := [(3, .int x3_13), (0, .ref a_p0), (1, .int x1), (2, .int x2)]) hx hb d_Su_take_20 hl (k := 3) rfl (by rw [e_x3_13]; rfl) (by decide) rfl (fun ls hl => ?_)
          refine lv_goto (tgt := 2) hx hb d_Su_take_23 (by decide) ?_
          exact ih x1 x2 x3_13 count keys numbers H locs ls hf hP hD hS (lv_sub hl [1, 2, 3, 0] rfl)
  rw [f_Su_take] at hf
  refine lv_iconst (v := 0) hx hb d_Su_take_0 (by decide) ?_
  refine lv_istore_n (lv' := [(3, .int 0), (0, .ref a_p0), (1, .int p1), (2, .int p2)]) hx hb d_Su_take_1 rfl hl (by decide) rfl (fun ls hl => ?_)
  exact B_2 F p1 p2 0 count keys numbers s.heap [] ls hf hP hD hS (lv_sub hl [1, 2, 3, 0] rfl)

/-! FermionMaps$Sum.upsOf(I)I -/
def f_Su_upsOf (F : Nat) (keys : Nat → Int32) (p1 : Int32) : Option (Int32) :=
  ckI p1 60 <|
  some (((keys p1.toNatClampNeg) >>> ((8 : Int32) &&& 31)))
abbrev rm_Su_upsOf : Room := { frames := 0, cells := 0, slots := 0, locals := 0 }
set_option maxHeartbeats 4000000 in
set_option maxRecDepth 100000 in
theorem c_Su_upsOf (l : Launch) (dC : Nat → ClassId) (dI : Nat → Nat → Nat) (cI cJ : ClassId) (a_p0 a_keys z_numbers z_spareKeys z_spareNumbers : Nat) (count : Int32) (keys : Nat → Int32) (p1 : Int32) (F : Nat) (u : Int32) (hf : f_Su_upsOf F keys p1 = some u) : Met l y_Su_upsOf (Cond.code y_Su_upsOf prog_3_method_2_code 2 (some .int) :: T0) rm_Su_upsOf (va_Pc [.ref a_p0, .int p1] (Wr (dC, dI) [(a_p0, .inr (1, [.ref a_keys, .ref z_numbers, .ref z_spareKeys, .ref z_spareNumbers, .int count])), (a_keys, .inl (cI, 60, .inl keys))] [(cI, .int), (cJ, .long)])) (vp_Si (fun r => r = u)) 0 0 (fun _ => False) := by
  refine Met.ofW (cc := prog_3_method_2_code) (maxL := 2) (ret := (some .int)) (by decide) rfl ?_
  intro p e s m args below meth c s₁ B hml hv
  obtain ⟨rfl, hP, hK, hNW⟩ := hv
  have hx := B.exec
  have hb := B.bytes
  have hr := B.returns
  have hts := atoms_spec (ws := Cond.code y_Su_upsOf prog_3_method_2_code 2 (some .int) :: T0) B.pre
  have ht0 : ∀ w ∈ T0, w.before ([.ref a_p0, .int p1] : List Value).toArray s = true := fun w h => hts w (List.mem_cons_of_mem _ h)
  have hown : s.vm.findClass "FermionMaps$Sum" = some m.cls := findClass_of_methodNamed B.named
  have hlocks := B.notSynchronized
  have hl := lv_entry ([.ref a_p0, .int p1]) (n := 2) (Nat.le_of_ble_eq_true rfl)
  rw [lg_entry_eq]
  generalize (lg_sl ([.ref a_p0, .int p1]) ++ List.replicate (2 - (lg_sl ([.ref a_p0, .int p1])).length) Slot.unset).toArray = ls at hl ⊢
  have hl : lv_has ls 2 [(0, .ref a_p0), (1, .int p1)] := hl
  refine W.nameQ (fun Q hQ => ?_)
  rw [f_Su_upsOf] at hf
  refine lv_aload_n hx hb d_Su_upsOf_0 rfl (lv_at hl 0 rfl) ?_
  refine va_get (D := (dC, dI)) (ci := 1) (v := .ref a_keys) (C := "FermionMaps$Sum") (T := F_Su) (N := 5) hx hb ht0 i_Su hown hK hP 0 rfl rfl 0 (by decide) (ht0 _ m_26) (fun _ h9 => h9) rfl d_Su_upsOf_1 ?_
  refine lv_iload_n hx hb d_Su_upsOf_4 rfl (lv_at hl 1 rfl) ?_
  obtain ⟨hi_1, hf⟩ := ckI_ok hf
  refine va_iald hx hb hK hP 1 0 rfl rfl hi_1 d_Su_upsOf_5 ?_
  refine lv_bipush (v := 8) hx hb d_Su_upsOf_6 (by decide) ?_
  refine lv_ishr hx hb d_Su_upsOf_8 ?_
  have hu := Option.some.inj hf
  subst hu
  exact rt_i hQ rfl hx hb hr hlocks d_Su_upsOf_9

/-! FermionMaps$Sum.downsOf(I)I -/
def f_Su_downsOf (F : Nat) (keys : Nat → Int32) (p1 : Int32) : Option (Int32) :=
  ckI p1 60 <|
  some (((keys p1.toNatClampNeg) &&& 255))
abbrev rm_Su_downsOf : Room := { frames := 0, cells := 0, slots := 0, locals := 0 }
set_option maxHeartbeats 4000000 in
set_option maxRecDepth 100000 in
theorem c_Su_downsOf (l : Launch) (dC : Nat → ClassId) (dI : Nat → Nat → Nat) (cI cJ : ClassId) (a_p0 a_keys z_numbers z_spareKeys z_spareNumbers : Nat) (count : Int32) (keys : Nat → Int32) (p1 : Int32) (F : Nat) (u : Int32) (hf : f_Su_downsOf F keys p1 = some u) : Met l y_Su_downsOf (Cond.code y_Su_downsOf prog_3_method_3_code 2 (some .int) :: T0) rm_Su_downsOf (va_Pc [.ref a_p0, .int p1] (Wr (dC, dI) [(a_p0, .inr (1, [.ref a_keys, .ref z_numbers, .ref z_spareKeys, .ref z_spareNumbers, .int count])), (a_keys, .inl (cI, 60, .inl keys))] [(cI, .int), (cJ, .long)])) (vp_Si (fun r => r = u)) 0 0 (fun _ => False) := by
  refine Met.ofW (cc := prog_3_method_3_code) (maxL := 2) (ret := (some .int)) (by decide) rfl ?_
  intro p e s m args below meth c s₁ B hml hv
  obtain ⟨rfl, hP, hK, hNW⟩ := hv
  have hx := B.exec
  have hb := B.bytes
  have hr := B.returns
  have hts := atoms_spec (ws := Cond.code y_Su_downsOf prog_3_method_3_code 2 (some .int) :: T0) B.pre
  have ht0 : ∀ w ∈ T0, w.before ([.ref a_p0, .int p1] : List Value).toArray s = true := fun w h => hts w (List.mem_cons_of_mem _ h)
  have hown : s.vm.findClass "FermionMaps$Sum" = some m.cls := findClass_of_methodNamed B.named
  have hlocks := B.notSynchronized
  have hl := lv_entry ([.ref a_p0, .int p1]) (n := 2) (Nat.le_of_ble_eq_true rfl)
  rw [lg_entry_eq]
  generalize (lg_sl ([.ref a_p0, .int p1]) ++ List.replicate (2 - (lg_sl ([.ref a_p0, .int p1])).length) Slot.unset).toArray = ls at hl ⊢
  have hl : lv_has ls 2 [(0, .ref a_p0), (1, .int p1)] := hl
  refine W.nameQ (fun Q hQ => ?_)
  rw [f_Su_downsOf] at hf
  refine lv_aload_n hx hb d_Su_downsOf_0 rfl (lv_at hl 0 rfl) ?_
  refine va_get (D := (dC, dI)) (ci := 1) (v := .ref a_keys) (C := "FermionMaps$Sum") (T := F_Su) (N := 5) hx hb ht0 i_Su hown hK hP 0 rfl rfl 0 (by decide) (ht0 _ m_26) (fun _ h9 => h9) rfl d_Su_downsOf_1 ?_
  refine lv_iload_n hx hb d_Su_downsOf_4 rfl (lv_at hl 1 rfl) ?_
  obtain ⟨hi_1, hf⟩ := ckI_ok hf
  refine va_iald hx hb hK hP 1 0 rfl rfl hi_1 d_Su_downsOf_5 ?_
  refine lv_sipush (v := 255) hx hb d_Su_downsOf_6 (by decide) ?_
  refine lv_iand hx hb d_Su_downsOf_9 ?_
  have hu := Option.some.inj hf
  subst hu
  exact rt_i hQ rfl hx hb hr hlocks d_Su_downsOf_10

/-! FermionMaps$Sum.between(II)J -/
def b_Su_between_118 (F : Nat) (k_5 : Int32 → Int32 → Int64 → Int32 → Option (Int64)) (count : Int32) (keys : Nat → Int32) (numbers : Nat → Int32) (x1 : Int32) (x2 : Int32) (x3 : Int64) (x5 : Int32) : Option (Int64) :=
  nm (x5 + 1 : Int32) fun x5_6 =>
  k_5 x1 x2 x3 x5_6
def b_Su_between_116 (F : Nat) (k_5 : Int32 → Int32 → Int64 → Int32 → Option (Int64)) (count : Int32) (keys : Nat → Int32) (numbers : Nat → Int32) (x1 : Int32) (x2 : Int32) (x5 : Int32) (s0 : Int64) (s1 : Int64) : Option (Int64) :=
  nm ((s0 + s1) : Int64) fun x3_13 =>
  b_Su_between_118 F k_5 count keys numbers x1 x2 x3_13 x5
def b_Su_between_58 (F : Nat) (k_5 : Int32 → Int32 → Int64 → Int32 → Option (Int64)) (count : Int32) (keys : Nat → Int32) (numbers : Nat → Int32) (x1 : Int32) (x2 : Int32) (x3 : Int64) (x5 : Int32) (x6 : Int32) (x7 : Int32) (s0 : Int32) : Option (Int64) :=
  if s0 = 0 then
    b_Su_between_118 F k_5 count keys numbers x1 x2 x3 x5
  else
    (f_FM_oddBelow F x6).bind fun u_7 =>
    (f_FM_oddBelow F x7).bind fun u_8 =>
    (f_FM_isOdd F (x1 &&& (u_7 ^^^ u_8))).bind fun u_9 =>
    (f_FM_turnsAlways F x6 x7).bind fun u_10 =>
    if u_9 = u_10 then
      ckI x5 60 <|
      b_Su_between_116 F k_5 count keys numbers x1 x2 x5 x3 ((numbers x5.toNatClampNeg).toInt64)
    else
      ckI x5 60 <|
      b_Su_between_116 F k_5 count keys numbers x1 x2 x5 x3 ((-(numbers x5.toNatClampNeg)).toInt64)
def b_Su_between_57 (F : Nat) (k_5 : Int32 → Int32 → Int64 → Int32 → Option (Int64)) (count : Int32) (keys : Nat → Int32) (numbers : Nat → Int32) (x1 : Int32) (x2 : Int32) (x3 : Int64) (x5 : Int32) (x6 : Int32) (x7 : Int32) : Option (Int64) :=
  b_Su_between_58 F k_5 count keys numbers x1 x2 x3 x5 x6 x7 0
def b_Su_between_5 (F : Nat) (count : Int32) (keys : Nat → Int32) (numbers : Nat → Int32) : Nat → Int32 → Int32 → Int64 → Int32 → Option (Int64)
  | 0, _, _, _, _ => none
  | n + 1, x1, x2, x3, x5 =>
    if count ≤ x5 then
      some (x3)
    else
      (f_Su_upsOf F keys x5).bind fun u_2 =>
      (f_Su_downsOf F keys x5).bind fun u_3 =>
      if (x1 &&& (u_2 ||| u_3)) = u_3 then
        if ((x1 ^^^ u_2) ^^^ u_3) = x2 then
          b_Su_between_58 F (b_Su_between_5 F count keys numbers n) count keys numbers x1 x2 x3 x5 u_2 u_3 1
        else
          b_Su_between_57 F (b_Su_between_5 F count keys numbers n) count keys numbers x1 x2 x3 x5 u_2 u_3
      else
        b_Su_between_57 F (b_Su_between_5 F count keys numbers n) count keys numbers x1 x2 x3 x5 u_2 u_3
def f_Su_between (F : Nat) (count : Int32) (keys : Nat → Int32) (numbers : Nat → Int32) (p1 : Int32) (p2 : Int32) : Option (Int64) :=
  b_Su_between_5 F count keys numbers F p1 p2 0 0
abbrev rm_Su_between : Room := { frames := 3, cells := 0, slots := 0, locals := 61 }
set_option maxHeartbeats 4000000 in
set_option maxRecDepth 100000 in
theorem c_Su_between (l : Launch) (dC : Nat → ClassId) (dI : Nat → Nat → Nat) (cI cJ : ClassId) (a_p0 a_keys a_numbers z_spareKeys z_spareNumbers : Nat) (count : Int32) (keys : Nat → Int32) (numbers : Nat → Int32) (p1 : Int32) (p2 : Int32) (F : Nat) (u : Int64) (hf : f_Su_between F count keys numbers p1 p2 = some u) : Met l y_Su_between (Cond.code y_Su_between prog_3_method_5_code 10 (some .long) :: T0) rm_Su_between (va_Pc [.ref a_p0, .int p1, .int p2] (Wr (dC, dI) [(a_p0, .inr (1, [.ref a_keys, .ref a_numbers, .ref z_spareKeys, .ref z_spareNumbers, .int count])), (a_keys, .inl (cI, 60, .inl keys)), (a_numbers, .inl (cI, 60, .inl numbers))] [(cI, .int), (cJ, .long)])) (vp_Sl (fun r => r = u)) 0 0 (fun _ => False) := by
  refine Met.ofW (cc := prog_3_method_5_code) (maxL := 10) (ret := (some .long)) (by decide) rfl ?_
  intro p e s m args below meth c s₁ B hml hv
  obtain ⟨rfl, hP, hK, hNW⟩ := hv
  have hx := B.exec
  have hb := B.bytes
  have hr := B.returns
  have hts := atoms_spec (ws := Cond.code y_Su_between prog_3_method_5_code 10 (some .long) :: T0) B.pre
  have ht0 : ∀ w ∈ T0, w.before ([.ref a_p0, .int p1, .int p2] : List Value).toArray s = true := fun w h => hts w (List.mem_cons_of_mem _ h)
  have hown : s.vm.findClass "FermionMaps$Sum" = some m.cls := findClass_of_methodNamed B.named
  have hlocks := B.notSynchronized
  have hl := lv_entry ([.ref a_p0, .int p1, .int p2]) (n := 10) (Nat.le_of_ble_eq_true rfl)
  rw [lg_entry_eq]
  generalize (lg_sl ([.ref a_p0, .int p1, .int p2]) ++ List.replicate (10 - (lg_sl ([.ref a_p0, .int p1, .int p2])).length) Slot.unset).toArray = ls at hl ⊢
  have hl : lv_has ls 10 [(0, .ref a_p0), (1, .int p1), (2, .int p2)] := hl
  refine W.nameQ (fun Q hQ => ?_)
  have B_118 : ∀ (k_5 : Int32 → Int32 → Int64 → Int32 → Option (Int64)) (hk_5 : ∀ (x1 : Int32) (x2 : Int32) (x3 : Int64) (x5 : Int32) (ls : Array Slot), k_5 x1 x2 x3 x5 = some u → lv_has ls 10 [(0, .ref a_p0), (1, .int x1), (2, .int x2), (3, .long x3), (5, .int x5)] → W p l e (headSpec (Cond.code y_Su_between prog_3_method_5_code 10 (some .long) :: T0) rm_Su_between).room s m ([.ref a_p0, .int p1, .int p2] : List Value).toArray below meth c s.heap [] 0 0 Q (F0 m 5 ls [])), ∀ (x1 : Int32) (x2 : Int32) (x3 : Int64) (x5 : Int32) (ls : Array Slot), b_Su_between_118 F k_5 count keys numbers x1 x2 x3 x5 = some u → lv_has ls 10 [(0, .ref a_p0), (1, .int x1), (2, .int x2), (3, .long x3), (5, .int x5)] → W p l e (headSpec (Cond.code y_Su_between prog_3_method_5_code 10 (some .long) :: T0) rm_Su_between).room s m ([.ref a_p0, .int p1, .int p2] : List Value).toArray below meth c s.heap [] 0 0 Q (F0 m 118 ls []) := by
    intro k_5 hk_5
    intro x1 x2 x3 x5 ls hf hl
    rw [b_Su_between_118] at hf
    obtain ⟨x5_6, e_x5_6⟩ : ∃ y : Int32, y = x5 + 1 := ⟨_, rfl⟩
    replace hf := nm_eq e_x5_6 hf
    refine lv_iinc (v := x5_6) (lv' := [(5, .int x5_6), (0, .ref a_p0), (1, .int x1), (2, .int x2), (3, .long x3)]) hx hb d_Su_between_118 hl (k := 4) rfl (by rw [e_x5_6]; rfl) (by decide) rfl (fun ls hl => ?_)
    refine lv_goto (tgt := 5) hx hb d_Su_between_121 (by decide) ?_
    exact hk_5 x1 x2 x3 x5_6 ls hf (lv_sub hl [1, 2, 3, 4, 0] rfl)
  have B_116 : ∀ (k_5 : Int32 → Int32 → Int64 → Int32 → Option (Int64)) (hk_5 : ∀ (x1 : Int32) (x2 : Int32) (x3 : Int64) (x5 : Int32) (ls : Array Slot), k_5 x1 x2 x3 x5 = some u → lv_has ls 10 [(0, .ref a_p0), (1, .int x1), (2, .int x2), (3, .long x3), (5, .int x5)] → W p l e (headSpec (Cond.code y_Su_between prog_3_method_5_code 10 (some .long) :: T0) rm_Su_between).room s m ([.ref a_p0, .int p1, .int p2] : List Value).toArray below meth c s.heap [] 0 0 Q (F0 m 5 ls [])), ∀ (x1 : Int32) (x2 : Int32) (x5 : Int32) (s0 : Int64) (s1 : Int64) (ls : Array Slot), b_Su_between_116 F k_5 count keys numbers x1 x2 x5 s0 s1 = some u → lv_has ls 10 [(0, .ref a_p0), (1, .int x1), (2, .int x2), (5, .int x5)] → W p l e (headSpec (Cond.code y_Su_between prog_3_method_5_code 10 (some .long) :: T0) rm_Su_between).room s m ([.ref a_p0, .int p1, .int p2] : List Value).toArray below meth c s.heap [] 0 0 Q (F0 m 116 ls [.long s1, .long s0]) := by
    intro k_5 hk_5
    intro x1 x2 x5 s0 s1 ls hf hl
    rw [b_Su_between_116] at hf
    refine lv_ladd hx hb d_Su_between_116 ?_
    refine lv_topl (fun x3_13 e_x3_13 => ?_)
    replace hf := nm_eq e_x3_13 hf
    refine lv_lstore_n (lv' := [(3, .long x3_13), (0, .ref a_p0), (1, .int x1), (2, .int x2), (5, .int x5)]) hx hb d_Su_between_117 rfl hl (by decide) rfl (fun ls hl => ?_)
    exact B_118 k_5 hk_5 x1 x2 x3_13 x5 ls hf (lv_sub hl [1, 2, 3, 0, 4] rfl)
  have B_58 : ∀ (k_5 : Int32 → Int32 → Int64 → Int32 → Option (Int64)) (hk_5 : ∀ (x1 : Int32) (x2 : Int32) (x3 : Int64) (x5 : Int32) (ls : Array Slot), k_5 x1 x2 x3 x5 = some u → lv_has ls 10 [(0, .ref a_p0), (1, .int x1), (2, .int x2), (3, .long x3), (5, .int x5)] → W p l e (headSpec (Cond.code y_Su_between prog_3_method_5_code 10 (some .long) :: T0) rm_Su_between).room s m ([.ref a_p0, .int p1, .int p2] : List Value).toArray below meth c s.heap [] 0 0 Q (F0 m 5 ls [])), ∀ (x1 : Int32) (x2 : Int32) (x3 : Int64) (x5 : Int32) (x6 : Int32) (x7 : Int32) (s0 : Int32) (ls : Array Slot), b_Su_between_58 F k_5 count keys numbers x1 x2 x3 x5 x6 x7 s0 = some u → lv_has ls 10 [(0, .ref a_p0), (1, .int x1), (2, .int x2), (3, .long x3), (5, .int x5), (6, .int x6), (7, .int x7)] → W p l e (headSpec (Cond.code y_Su_between prog_3_method_5_code 10 (some .long) :: T0) rm_Su_between).room s m ([.ref a_p0, .int p1, .int p2] : List Value).toArray below meth c s.heap [] 0 0 Q (F0 m 58 ls [.int s0]) := by
    intro k_5 hk_5
    intro x1 x2 x3 x5 x6 x7 s0 ls hf hl
    rw [b_Su_between_58] at hf
    refine lv_istore (lv' := [(8, .int s0), (0, .ref a_p0), (1, .int x1), (2, .int x2), (3, .long x3), (5, .int x5), (6, .int x6), (7, .int x7)]) hx hb d_Su_between_58 hl (by decide) rfl (fun ls hl => ?_)
    refine lv_iload hx hb d_Su_between_60 (lv_at hl 0 rfl) ?_
    refine lv_if_eq (tgt := 118) hx hb d_Su_between_62 (by decide) (fun c_5 => ?_) (fun c_5 => ?_)
    · replace hf := if_t c_5 hf
      exact B_118 k_5 hk_5 x1 x2 x3 x5 ls hf (lv_sub hl [1, 2, 3, 4, 5] rfl)
    · replace hf := if_f c_5 hf
      refine lv_iload_n hx hb d_Su_between_65 rfl (lv_at hl 2 rfl) ?_
      refine lv_iload hx hb d_Su_between_66 (lv_at hl 6 rfl) ?_
      obtain ⟨u_7, h_u_7, hf⟩ := bd hf
      refine rd_i (rdSN_run (As := [.int x6]) (rest := [.int x1]) ⟨hx, hb, hml, hown, ht0⟩ (c_FM_oddBelow l dC dI cI cJ x6 F u_7 h_u_7) ⟨va_cnB (host := "FermionMaps") 1 ht0 (gC m_288) rfl rfl rfl (nw_Su_40 hNW) (ht0 _ m_1) (by decide +kernel) ⟨Nat.le_of_ble_eq_true rfl, Nat.le_of_ble_eq_true rfl⟩, ht0 _ m_287, trivial⟩ hK hNW hP [] rfl  rfl hl.1 rfl (Nat.le_of_ble_eq_true rfl) d_Su_between_68 ⟨Nat.zero_le _, Nat.zero_le _⟩) ?_
      refine lv_iload hx hb d_Su_between_71 (lv_at hl 7 rfl) ?_
      obtain ⟨u_8, h_u_8, hf⟩ := bd hf
      refine rd_i (rdSN_run (As := [.int x7]) (rest := [.int u_7, .int x1]) ⟨hx, hb, hml, hown, ht0⟩ (c_FM_oddBelow l dC dI cI cJ x7 F u_8 h_u_8) ⟨va_cnB (host := "FermionMaps") 1 ht0 (gC m_288) rfl rfl rfl (nw_Su_40 hNW) (ht0 _ m_1) (by decide +kernel) ⟨Nat.le_of_ble_eq_true rfl, Nat.le_of_ble_eq_true rfl⟩, ht0 _ m_287, trivial⟩ hK hNW hP [] rfl  rfl hl.1 rfl (Nat.le_of_ble_eq_true rfl) d_Su_between_73 ⟨Nat.zero_le _, Nat.zero_le _⟩) ?_
      refine lv_ixor hx hb d_Su_between_76 ?_
      refine lv_iand hx hb d_Su_between_77 ?_
      obtain ⟨u_9, h_u_9, hf⟩ := bd hf
      refine rd_i (rdSN_run (As := [.int (x1 &&& (u_7 ^^^ u_8))]) (rest := []) ⟨hx, hb, hml, hown, ht0⟩ (c_FM_isOdd l dC dI cI cJ (x1 &&& (u_7 ^^^ u_8)) F u_9 h_u_9) ⟨va_cnB (host := "FermionMaps") 1 ht0 (gC m_201) rfl rfl rfl (nw_Su_43 hNW) (ht0 _ m_1) (by decide +kernel) ⟨Nat.le_of_ble_eq_true rfl, Nat.le_of_ble_eq_true rfl⟩, ht0 _ m_200, trivial⟩ hK hNW hP [] rfl  rfl hl.1 rfl (Nat.le_of_ble_eq_true rfl) d_Su_between_78 ⟨Nat.zero_le _, Nat.zero_le _⟩) ?_
      refine lv_istore (lv' := [(9, .int u_9), (8, .int s0), (0, .ref a_p0), (1, .int x1), (2, .int x2), (3, .long x3), (5, .int x5), (6, .int x6), (7, .int x7)]) hx hb d_Su_between_81 hl (by decide) rfl (fun ls hl => ?_)
      refine lv_lload_n hx hb d_Su_between_83 rfl (lv_at hl 5 rfl) ?_
      refine lv_iload hx hb d_Su_between_84 (lv_at hl 0 rfl) ?_
      refine lv_iload hx hb d_Su_between_86 (lv_at hl 7 rfl) ?_
      refine lv_iload hx hb d_Su_between_88 (lv_at hl 8 rfl) ?_
      obtain ⟨u_10, h_u_10, hf⟩ := bd hf
      refine rd_i (rdSN_run (As := [.int x6, .int x7]) (rest := [.int u_9, .long x3]) ⟨hx, hb, hml, hown, ht0⟩ (c_FM_turnsAlways l dC dI cI cJ x6 x7 F u_10 h_u_10) ⟨va_cnB (host := "FermionMaps") 2 ht0 (gC m_295) rfl rfl rfl (nw_Su_47 hNW) (ht0 _ m_1) (by decide +kernel) ⟨Nat.le_of_ble_eq_true rfl, Nat.le_of_ble_eq_true rfl⟩, ht0 _ m_294, trivial⟩ hK hNW hP [] rfl  rfl hl.1 rfl (Nat.le_of_ble_eq_true rfl) d_Su_between_90 ⟨Nat.zero_le _, Nat.zero_le _⟩) ?_
      refine lv_icmp_eq (tgt := 108) hx hb d_Su_between_93 (by decide) (fun c_11 => ?_) (fun c_11 => ?_)
      · replace hf := if_t c_11 hf
        refine lv_aload_n hx hb d_Su_between_108 rfl (lv_at hl 2 rfl) ?_
        refine va_get (D := (dC, dI)) (ci := 1) (v := .ref a_numbers) (C := "FermionMaps$Sum") (T := F_Su) (N := 5) hx hb ht0 i_Su hown hK hP 0 rfl rfl 1 (by decide) (ht0 _ m_27) (fun _ h9 => h9) rfl d_Su_between_109 ?_
        refine lv_iload hx hb d_Su_between_112 (lv_at hl 6 rfl) ?_
        obtain ⟨hi_12, hf⟩ := ckI_ok hf
        refine va_iald hx hb hK hP 2 0 rfl rfl hi_12 d_Su_between_114 ?_
        refine lv_i2l (v := (numbers x5.toNatClampNeg).toInt64) hx hb d_Su_between_115 rfl ?_
        exact B_116 k_5 hk_5 x1 x2 x5 x3 ((numbers x5.toNatClampNeg).toInt64) ls hf (lv_sub hl [2, 3, 4, 6] rfl)
      · replace hf := if_f c_11 hf
        refine lv_aload_n hx hb d_Su_between_96 rfl (lv_at hl 2 rfl) ?_
        refine va_get (D := (dC, dI)) (ci := 1) (v := .ref a_numbers) (C := "FermionMaps$Sum") (T := F_Su) (N := 5) hx hb ht0 i_Su hown hK hP 0 rfl rfl 1 (by decide) (ht0 _ m_27) (fun _ h9 => h9) rfl d_Su_between_97 ?_
        refine lv_iload hx hb d_Su_between_100 (lv_at hl 6 rfl) ?_
        obtain ⟨hi_14, hf⟩ := ckI_ok hf
        refine va_iald hx hb hK hP 2 0 rfl rfl hi_14 d_Su_between_102 ?_
        refine lv_ineg hx hb d_Su_between_103 ?_
        refine lv_i2l (v := (-(numbers x5.toNatClampNeg)).toInt64) hx hb d_Su_between_104 rfl ?_
        refine lv_goto (tgt := 116) hx hb d_Su_between_105 (by decide) ?_
        exact B_116 k_5 hk_5 x1 x2 x5 x3 ((-(numbers x5.toNatClampNeg)).toInt64) ls hf (lv_sub hl [2, 3, 4, 6] rfl)
  have B_57 : ∀ (k_5 : Int32 → Int32 → Int64 → Int32 → Option (Int64)) (hk_5 : ∀ (x1 : Int32) (x2 : Int32) (x3 : Int64) (x5 : Int32) (ls : Array Slot), k_5 x1 x2 x3 x5 = some u → lv_has ls 10 [(0, .ref a_p0), (1, .int x1), (2, .int x2), (3, .long x3), (5, .int x5)] → W p l e (headSpec (Cond.code y_Su_between prog_3_method_5_code 10 (some .long) :: T0) rm_Su_between).room s m ([.ref a_p0, .int p1, .int p2] : List Value).toArray below meth c s.heap [] 0 0 Q (F0 m 5 ls [])), ∀ (x1 : Int32) (x2 : Int32) (x3 : Int64) (x5 : Int32) (x6 : Int32) (x7 : Int32) (ls : Array Slot), b_Su_between_57 F k_5 count keys numbers x1 x2 x3 x5 x6 x7 = some u → lv_has ls 10 [(0, .ref a_p0), (1, .int x1), (2, .int x2), (3, .long x3), (5, .int x5), (6, .int x6), (7, .int x7)] → W p l e (headSpec (Cond.code y_Su_between prog_3_method_5_code 10 (some .long) :: T0) rm_Su_between).room s m ([.ref a_p0, .int p1, .int p2] : List Value).toArray below meth c s.heap [] 0 0 Q (F0 m 57 ls []) := by
    intro k_5 hk_5
    intro x1 x2 x3 x5 x6 x7 ls hf hl
    rw [b_Su_between_57] at hf
    refine lv_iconst (v := 0) hx hb d_Su_between_57 (by decide) ?_
    exact B_58 k_5 hk_5 x1 x2 x3 x5 x6 x7 0 ls hf (lv_sub hl [0, 1, 2, 3, 4, 5, 6] rfl)
  have B_5 : ∀ (n : Nat), ∀ (x1 : Int32) (x2 : Int32) (x3 : Int64) (x5 : Int32) (ls : Array Slot), b_Su_between_5 F count keys numbers n x1 x2 x3 x5 = some u → lv_has ls 10 [(0, .ref a_p0), (1, .int x1), (2, .int x2), (3, .long x3), (5, .int x5)] → W p l e (headSpec (Cond.code y_Su_between prog_3_method_5_code 10 (some .long) :: T0) rm_Su_between).room s m ([.ref a_p0, .int p1, .int p2] : List Value).toArray below meth c s.heap [] 0 0 Q (F0 m 5 ls []) := by
    intro n
    induction n with
    | zero =>
      intro x1 x2 x3 x5 ls hf hl
      exact no_fuel hf
    | succ n ih =>
      intro x1 x2 x3 x5 ls hf hl
      rw [b_Su_between_5] at hf
      refine lv_iload hx hb d_Su_between_5 (lv_at hl 4 rfl) ?_
      refine lv_aload_n hx hb d_Su_between_7 rfl (lv_at hl 0 rfl) ?_
      refine va_get (D := (dC, dI)) (ci := 1) (v := .int count) (C := "FermionMaps$Sum") (T := F_Su) (N := 5) hx hb ht0 i_Su hown hK hP 0 rfl rfl 4 (by decide) (ht0 _ m_32) (fun _ h9 => h9) rfl d_Su_between_8 ?_
      refine lv_icmp_ge (tgt := 124) hx hb d_Su_between_11 (by decide) (fun c_1 => ?_) (fun c_1 => ?_)
      · replace hf := if_t c_1 hf
        refine lv_lload_n hx hb d_Su_between_124 rfl (lv_at hl 3 rfl) ?_
        have hu := Option.some.inj hf
        subst hu
        exact rt_l hQ rfl hx hb hr hlocks d_Su_between_125
      · replace hf := if_f c_1 hf
        refine lv_aload_n hx hb d_Su_between_14 rfl (lv_at hl 0 rfl) ?_
        refine lv_iload hx hb d_Su_between_15 (lv_at hl 4 rfl) ?_
        obtain ⟨u_2, h_u_2, hf⟩ := bd hf
        refine rd_i (rdV_run (As := [.int x5]) (rest := []) ⟨hx, hb, hml, hown, ht0⟩ (c_Su_upsOf l dC dI cI cJ a_p0 a_keys a_numbers z_spareKeys z_spareNumbers count keys x5 F u_2 h_u_2) (cwV 1 ht0 (gV m_318 m_270 m_271 m_2 m_272) rfl rfl rfl (by decide +kernel) ⟨Nat.le_of_ble_eq_true rfl, Nat.le_of_ble_eq_true rfl⟩) hK hNW hP [0, 1] rfl (ci := 1) (q0 := 0) rfl rfl rfl hl.1 rfl (Nat.le_of_ble_eq_true rfl) d_Su_between_17 ⟨Nat.zero_le _, Nat.zero_le _⟩) ?_
        refine lv_istore (lv' := [(6, .int u_2), (0, .ref a_p0), (1, .int x1), (2, .int x2), (3, .long x3), (5, .int x5)]) hx hb d_Su_between_20 hl (by decide) rfl (fun ls hl => ?_)
        refine lv_aload_n hx hb d_Su_between_22 rfl (lv_at hl 1 rfl) ?_
        refine lv_iload hx hb d_Su_between_23 (lv_at hl 5 rfl) ?_
        obtain ⟨u_3, h_u_3, hf⟩ := bd hf
        refine rd_i (rdV_run (As := [.int x5]) (rest := []) ⟨hx, hb, hml, hown, ht0⟩ (c_Su_downsOf l dC dI cI cJ a_p0 a_keys a_numbers z_spareKeys z_spareNumbers count keys x5 F u_3 h_u_3) (cwV 1 ht0 (gV m_320 m_274 m_275 m_2 m_276) rfl rfl rfl (by decide +kernel) ⟨Nat.le_of_ble_eq_true rfl, Nat.le_of_ble_eq_true rfl⟩) hK hNW hP [0, 1] rfl (ci := 1) (q0 := 0) rfl rfl rfl hl.1 rfl (Nat.le_of_ble_eq_true rfl) d_Su_between_25 ⟨Nat.zero_le _, Nat.zero_le _⟩) ?_
        refine lv_istore (lv' := [(7, .int u_3), (6, .int u_2), (0, .ref a_p0), (1, .int x1), (2, .int x2), (3, .long x3), (5, .int x5)]) hx hb d_Su_between_28 hl (by decide) rfl (fun ls hl => ?_)
        refine lv_iload_n hx hb d_Su_between_30 rfl (lv_at hl 3 rfl) ?_
        refine lv_iload hx hb d_Su_between_31 (lv_at hl 1 rfl) ?_
        refine lv_iload hx hb d_Su_between_33 (lv_at hl 0 rfl) ?_
        refine lv_ior hx hb d_Su_between_35 ?_
        refine lv_iand hx hb d_Su_between_36 ?_
        refine lv_iload hx hb d_Su_between_37 (lv_at hl 0 rfl) ?_
        refine lv_icmp_ne (tgt := 57) hx hb d_Su_between_39 (by decide) (fun c_4 => ?_) (fun c_4 => ?_)
        · replace hf := if_f c_4 hf
          exact B_57 (b_Su_between_5 F count keys numbers n) ih x1 x2 x3 x5 u_2 u_3 ls hf (lv_sub hl [2, 3, 4, 5, 6, 1, 0] rfl)
        · replace hf := if_t c_4 hf
          refine lv_iload_n hx hb d_Su_between_42 rfl (lv_at hl 3 rfl) ?_
          refine lv_iload hx hb d_Su_between_43 (lv_at hl 1 rfl) ?_
          refine lv_ixor hx hb d_Su_between_45 ?_
          refine lv_iload hx hb d_Su_between_46 (lv_at hl 0 rfl) ?_
          refine lv_ixor hx hb d_Su_between_48 ?_
          refine lv_iload_n hx hb d_Su_between_49 rfl (lv_at hl 4 rfl) ?_
          refine lv_icmp_ne (tgt := 57) hx hb d_Su_between_50 (by decide) (fun c_15 => ?_) (fun c_15 => ?_)
          · replace hf := if_f c_15 hf
            exact B_57 (b_Su_between_5 F count keys numbers n) ih x1 x2 x3 x5 u_2 u_3 ls hf (lv_sub hl [2, 3, 4, 5, 6, 1, 0] rfl)
          · replace hf := if_t c_15 hf
            refine lv_iconst (v := 1) hx hb d_Su_between_53 (by decide) ?_
            refine lv_goto (tgt := 58) hx hb d_Su_between_54 (by decide) ?_
            exact B_58 (b_Su_between_5 F count keys numbers n) ih x1 x2 x3 x5 u_2 u_3 1 ls hf (lv_sub hl [2, 3, 4, 5, 6, 1, 0] rfl)
  rw [f_Su_between] at hf
  refine lv_lconst (v := 0) hx hb d_Su_between_0 (by decide) ?_
  refine lv_lstore_n (lv' := [(3, .long 0), (0, .ref a_p0), (1, .int p1), (2, .int p2)]) hx hb d_Su_between_1 rfl hl (by decide) rfl (fun ls hl => ?_)
  refine lv_iconst (v := 0) hx hb d_Su_between_2 (by decide) ?_
  refine lv_istore (lv' := [(5, .int 0), (3, .long 0), (0, .ref a_p0), (1, .int p1), (2, .int p2)]) hx hb d_Su_between_3 hl (by decide) rfl (fun ls hl => ?_)
  exact B_5 F p1 p2 0 0 ls hf (lv_sub hl [2, 3, 4, 1, 0] rfl)

/-! FermionMaps$Sum.isEven()Z -/
def b_Su_isEven_2 (F : Nat) (count : Int32) (keys : Nat → Int32) : Nat → Int32 → Option (Int32)
  | 0, _ => none
  | n + 1, x1 =>
    if count ≤ x1 then
      some (1)
    else
      (f_Su_upsOf F keys x1).bind fun u_2 =>
      (f_In_bitCount F u_2).bind fun u_3 =>
      (f_Su_downsOf F keys x1).bind fun u_4 =>
      (f_In_bitCount F u_4).bind fun u_5 =>
      if u_3 = u_5 then
        nm (x1 + 1 : Int32) fun x1_7 =>
        b_Su_isEven_2 F count keys n x1_7
      else
        some (0)
def f_Su_isEven (F : Nat) (count : Int32) (keys : Nat → Int32) : Option (Int32) :=
  b_Su_isEven_2 F count keys F 0
abbrev rm_Su_isEven : Room := { frames := 1, cells := 0, slots := 0, locals := 21 }
set_option maxHeartbeats 4000000 in
set_option maxRecDepth 100000 in
theorem c_Su_isEven (l : Launch) (dC : Nat → ClassId) (dI : Nat → Nat → Nat) (cI cJ : ClassId) (a_p0 a_keys z_numbers z_spareKeys z_spareNumbers : Nat) (count : Int32) (keys : Nat → Int32) (F : Nat) (u : Int32) (hf : f_Su_isEven F count keys = some u) : Met l y_Su_isEven (Cond.code y_Su_isEven prog_3_method_4_code 2 (some .boolean) :: T0) rm_Su_isEven (va_Pc [.ref a_p0] (Wr (dC, dI) [(a_p0, .inr (1, [.ref a_keys, .ref z_numbers, .ref z_spareKeys, .ref z_spareNumbers, .int count])), (a_keys, .inl (cI, 60, .inl keys))] [(cI, .int), (cJ, .long)])) (vp_Si (fun r => r = u)) 0 0 (fun _ => False) := by
  refine Met.ofW (cc := prog_3_method_4_code) (maxL := 2) (ret := (some .boolean)) (by decide) rfl ?_
  intro p e s m args below meth c s₁ B hml hv
  obtain ⟨rfl, hP, hK, hNW⟩ := hv
  have hx := B.exec
  have hb := B.bytes
  have hr := B.returns
  have hts := atoms_spec (ws := Cond.code y_Su_isEven prog_3_method_4_code 2 (some .boolean) :: T0) B.pre
  have ht0 : ∀ w ∈ T0, w.before ([.ref a_p0] : List Value).toArray s = true := fun w h => hts w (List.mem_cons_of_mem _ h)
  have hown : s.vm.findClass "FermionMaps$Sum" = some m.cls := findClass_of_methodNamed B.named
  have hlocks := B.notSynchronized
  have hl := lv_entry ([.ref a_p0]) (n := 2) (Nat.le_of_ble_eq_true rfl)
  rw [lg_entry_eq]
  generalize (lg_sl ([.ref a_p0]) ++ List.replicate (2 - (lg_sl ([.ref a_p0])).length) Slot.unset).toArray = ls at hl ⊢
  have hl : lv_has ls 2 [(0, .ref a_p0)] := hl
  refine W.nameQ (fun Q hQ => ?_)
  have B_2 : ∀ (n : Nat), ∀ (x1 : Int32) (ls : Array Slot), b_Su_isEven_2 F count keys n x1 = some u → lv_has ls 2 [(0, .ref a_p0), (1, .int x1)] → W p l e (headSpec (Cond.code y_Su_isEven prog_3_method_4_code 2 (some .boolean) :: T0) rm_Su_isEven).room s m ([.ref a_p0] : List Value).toArray below meth c s.heap [] 0 0 Q (F0 m 2 ls []) := by
    intro n
    induction n with
    | zero =>
      intro x1 ls hf hl
      exact no_fuel hf
    | succ n ih =>
      intro x1 ls hf hl
      rw [b_Su_isEven_2] at hf
      refine lv_iload_n hx hb d_Su_isEven_2 rfl (lv_at hl 1 rfl) ?_
      refine lv_aload_n hx hb d_Su_isEven_3 rfl (lv_at hl 0 rfl) ?_
      refine va_get (D := (dC, dI)) (ci := 1) (v := .int count) (C := "FermionMaps$Sum") (T := F_Su) (N := 5) hx hb ht0 i_Su hown hK hP 0 rfl rfl 4 (by decide) (ht0 _ m_32) (fun _ h9 => h9) rfl d_Su_isEven_4 ?_
      refine lv_icmp_ge (tgt := 37) hx hb d_Su_isEven_7 (by decide) (fun c_1 => ?_) (fun c_1 => ?_)
      · replace hf := if_t c_1 hf
        refine lv_iconst (v := 1) hx hb d_Su_isEven_37 (by decide) ?_
        have hu := Option.some.inj hf
        subst hu
        exact rt_z hQ rfl rfl hx hb hr hlocks d_Su_isEven_38
      · replace hf := if_f c_1 hf
        refine lv_aload_n hx hb d_Su_isEven_10 rfl (lv_at hl 0 rfl) ?_
        refine lv_iload_n hx hb d_Su_isEven_11 rfl (lv_at hl 1 rfl) ?_
        obtain ⟨u_2, h_u_2, hf⟩ := bd hf
        refine rd_i (rdV_run (As := [.int x1]) (rest := []) ⟨hx, hb, hml, hown, ht0⟩ (c_Su_upsOf l dC dI cI cJ a_p0 a_keys z_numbers z_spareKeys z_spareNumbers count keys x1 F u_2 h_u_2) (cwV 1 ht0 (gV m_318 m_270 m_271 m_2 m_272) rfl rfl rfl (by decide +kernel) ⟨Nat.le_of_ble_eq_true rfl, Nat.le_of_ble_eq_true rfl⟩) hK hNW hP [0, 1] rfl (ci := 1) (q0 := 0) rfl rfl rfl hl.1 rfl (Nat.le_of_ble_eq_true rfl) d_Su_isEven_12 ⟨Nat.zero_le _, Nat.zero_le _⟩) ?_
        obtain ⟨u_3, h_u_3, hf⟩ := bd hf
        refine rd_i (rdS_run (As := [.int u_2]) (rest := []) ⟨hx, hb, hml, hown, ht0⟩ (c_In_bitCount l dC dI cI cJ u_2 F u_3 h_u_3) (va_cwS 1 ht0 (gS m_319 m_203 m_7 m_204) rfl rfl rfl (by decide +kernel) ⟨Nat.le_of_ble_eq_true rfl, Nat.le_of_ble_eq_true rfl⟩) hK hNW hP [] rfl  rfl hl.1 rfl (Nat.le_of_ble_eq_true rfl) d_Su_isEven_15 ⟨Nat.zero_le _, Nat.zero_le _⟩) ?_
        refine lv_aload_n hx hb d_Su_isEven_18 rfl (lv_at hl 0 rfl) ?_
        refine lv_iload_n hx hb d_Su_isEven_19 rfl (lv_at hl 1 rfl) ?_
        obtain ⟨u_4, h_u_4, hf⟩ := bd hf
        refine rd_i (rdV_run (As := [.int x1]) (rest := [.int u_3]) ⟨hx, hb, hml, hown, ht0⟩ (c_Su_downsOf l dC dI cI cJ a_p0 a_keys z_numbers z_spareKeys z_spareNumbers count keys x1 F u_4 h_u_4) (cwV 1 ht0 (gV m_320 m_274 m_275 m_2 m_276) rfl rfl rfl (by decide +kernel) ⟨Nat.le_of_ble_eq_true rfl, Nat.le_of_ble_eq_true rfl⟩) hK hNW hP [0, 1] rfl (ci := 1) (q0 := 0) rfl rfl rfl hl.1 rfl (Nat.le_of_ble_eq_true rfl) d_Su_isEven_20 ⟨Nat.zero_le _, Nat.zero_le _⟩) ?_
        obtain ⟨u_5, h_u_5, hf⟩ := bd hf
        refine rd_i (rdS_run (As := [.int u_4]) (rest := [.int u_3]) ⟨hx, hb, hml, hown, ht0⟩ (c_In_bitCount l dC dI cI cJ u_4 F u_5 h_u_5) (va_cwS 1 ht0 (gS m_319 m_203 m_7 m_204) rfl rfl rfl (by decide +kernel) ⟨Nat.le_of_ble_eq_true rfl, Nat.le_of_ble_eq_true rfl⟩) hK hNW hP [] rfl  rfl hl.1 rfl (Nat.le_of_ble_eq_true rfl) d_Su_isEven_23 ⟨Nat.zero_le _, Nat.zero_le _⟩) ?_
        refine lv_icmp_eq (tgt := 31) hx hb d_Su_isEven_26 (by decide) (fun c_6 => ?_) (fun c_6 => ?_)
        · replace hf := if_t c_6 hf
          obtain ⟨x1_7, e_x1_7⟩ : ∃ y : Int32, y = x1 + 1 := ⟨_, rfl⟩
          replace hf := nm_eq e_x1_7 hf
          refine lv_iinc (v := x1_7) (lv' := [(1, .int x1_7), (0, .ref a_p0)]) hx hb d_Su_isEven_31 hl (k := 1) rfl (by rw [e_x1_7]; rfl) (by decide) rfl (fun ls hl => ?_)
          refine lv_goto (tgt := 2) hx hb d_Su_isEven_34 (by decide) ?_
          exact ih x1_7 ls hf (lv_sub hl [1, 0] rfl)
        · replace hf := if_f c_6 hf
          refine lv_iconst (v := 0) hx hb d_Su_isEven_29 (by decide) ?_
          have hu := Option.some.inj hf
          subst hu
          exact rt_z hQ rfl rfl hx hb hr hlocks d_Su_isEven_30
  rw [f_Su_isEven] at hf
  refine lv_iconst (v := 0) hx hb d_Su_isEven_0 (by decide) ?_
  refine lv_istore_n (lv' := [(1, .int 0), (0, .ref a_p0)]) hx hb d_Su_isEven_1 rfl hl (by decide) rfl (fun ls hl => ?_)
  exact B_2 F 0 ls hf (lv_sub hl [1, 0] rfl)
