theorem d_Wi_reset_0 : decode prog_4_method_2_code 0 = .ok (.aload_n 0, 1) := by decide +kernel
theorem d_Wi_reset_1 : decode prog_4_method_2_code 1 = .ok (.iload_n 1, 1) := by decide +kernel
theorem d_Wi_reset_2 : decode prog_4_method_2_code 2 = .ok (.putfield 27, 3) := by decide +kernel
theorem d_Wi_reset_5 : decode prog_4_method_2_code 5 = .ok (.aload_n 0, 1) := by decide +kernel
theorem d_Wi_reset_6 : decode prog_4_method_2_code 6 = .ok (.iconst 0, 1) := by decide +kernel
theorem d_Wi_reset_7 : decode prog_4_method_2_code 7 = .ok (.putfield 31, 3) := by decide +kernel
theorem d_Wi_reset_10 : decode prog_4_method_2_code 10 = .ok (.iconst 0, 1) := by decide +kernel
theorem d_Wi_reset_11 : decode prog_4_method_2_code 11 = .ok (.istore_n 2, 1) := by decide +kernel
theorem d_Wi_reset_12 : decode prog_4_method_2_code 12 = .ok (.iload_n 2, 1) := by decide +kernel
theorem d_Wi_reset_13 : decode prog_4_method_2_code 13 = .ok (.bipush 8, 2) := by decide +kernel
theorem d_Wi_reset_15 : decode prog_4_method_2_code 15 = .ok (.if_icmp .ge 36, 3) := by decide +kernel
theorem d_Wi_reset_18 : decode prog_4_method_2_code 18 = .ok (.aload_n 0, 1) := by decide +kernel
theorem d_Wi_reset_19 : decode prog_4_method_2_code 19 = .ok (.getfield 9, 3) := by decide +kernel
theorem d_Wi_reset_22 : decode prog_4_method_2_code 22 = .ok (.iload_n 2, 1) := by decide +kernel
theorem d_Wi_reset_23 : decode prog_4_method_2_code 23 = .ok (.iconst 1, 1) := by decide +kernel
theorem d_Wi_reset_24 : decode prog_4_method_2_code 24 = .ok (.iload_n 2, 1) := by decide +kernel
theorem d_Wi_reset_25 : decode prog_4_method_2_code 25 = .ok (.ishl, 1) := by decide +kernel
theorem d_Wi_reset_26 : decode prog_4_method_2_code 26 = .ok (.iastore, 1) := by decide +kernel
theorem d_Wi_reset_27 : decode prog_4_method_2_code 27 = .ok (.aload_n 0, 1) := by decide +kernel
theorem d_Wi_reset_28 : decode prog_4_method_2_code 28 = .ok (.getfield 15, 3) := by decide +kernel
theorem d_Wi_reset_31 : decode prog_4_method_2_code 31 = .ok (.iload_n 2, 1) := by decide +kernel
theorem d_Wi_reset_32 : decode prog_4_method_2_code 32 = .ok (.iconst 1, 1) := by decide +kernel
theorem d_Wi_reset_33 : decode prog_4_method_2_code 33 = .ok (.iload_n 2, 1) := by decide +kernel
theorem d_Wi_reset_34 : decode prog_4_method_2_code 34 = .ok (.ishl, 1) := by decide +kernel
theorem d_Wi_reset_35 : decode prog_4_method_2_code 35 = .ok (.iastore, 1) := by decide +kernel
theorem d_Wi_reset_36 : decode prog_4_method_2_code 36 = .ok (.aload_n 0, 1) := by decide +kernel
theorem d_Wi_reset_37 : decode prog_4_method_2_code 37 = .ok (.getfield 18, 3) := by decide +kernel
theorem d_Wi_reset_40 : decode prog_4_method_2_code 40 = .ok (.iload_n 2, 1) := by decide +kernel
theorem d_Wi_reset_41 : decode prog_4_method_2_code 41 = .ok (.iconst 1, 1) := by decide +kernel
theorem d_Wi_reset_42 : decode prog_4_method_2_code 42 = .ok (.iload_n 2, 1) := by decide +kernel
theorem d_Wi_reset_43 : decode prog_4_method_2_code 43 = .ok (.ishl, 1) := by decide +kernel
theorem d_Wi_reset_44 : decode prog_4_method_2_code 44 = .ok (.iastore, 1) := by decide +kernel
theorem d_Wi_reset_45 : decode prog_4_method_2_code 45 = .ok (.iinc 2 1, 3) := by decide +kernel
theorem d_Wi_reset_48 : decode prog_4_method_2_code 48 = .ok (.goto (-36), 3) := by decide +kernel
theorem d_Wi_reset_51 : decode prog_4_method_2_code 51 = .ok (.return_, 1) := by decide +kernel
theorem d_Wi_rowOf_0 : decode prog_4_method_4_code 0 = .ok (.iload_n 1, 1) := by decide +kernel
theorem d_Wi_rowOf_1 : decode prog_4_method_4_code 1 = .ok (.ifCond .ne 7, 3) := by decide +kernel
theorem d_Wi_rowOf_4 : decode prog_4_method_4_code 4 = .ok (.iconst 1, 1) := by decide +kernel
theorem d_Wi_rowOf_5 : decode prog_4_method_4_code 5 = .ok (.iload_n 2, 1) := by decide +kernel
theorem d_Wi_rowOf_6 : decode prog_4_method_4_code 6 = .ok (.ishl, 1) := by decide +kernel
theorem d_Wi_rowOf_7 : decode prog_4_method_4_code 7 = .ok (.ireturn, 1) := by decide +kernel
theorem d_Wi_rowOf_8 : decode prog_4_method_4_code 8 = .ok (.iload_n 1, 1) := by decide +kernel
theorem d_Wi_rowOf_9 : decode prog_4_method_4_code 9 = .ok (.iconst 1, 1) := by decide +kernel
theorem d_Wi_rowOf_10 : decode prog_4_method_4_code 10 = .ok (.if_icmp .ne 9, 3) := by decide +kernel
theorem d_Wi_rowOf_13 : decode prog_4_method_4_code 13 = .ok (.iconst 2, 1) := by decide +kernel
theorem d_Wi_rowOf_14 : decode prog_4_method_4_code 14 = .ok (.iload_n 2, 1) := by decide +kernel
theorem d_Wi_rowOf_15 : decode prog_4_method_4_code 15 = .ok (.ishl, 1) := by decide +kernel
theorem d_Wi_rowOf_16 : decode prog_4_method_4_code 16 = .ok (.iconst 1, 1) := by decide +kernel
theorem d_Wi_rowOf_17 : decode prog_4_method_4_code 17 = .ok (.isub, 1) := by decide +kernel
theorem d_Wi_rowOf_18 : decode prog_4_method_4_code 18 = .ok (.ireturn, 1) := by decide +kernel
theorem d_Wi_rowOf_19 : decode prog_4_method_4_code 19 = .ok (.iload_n 1, 1) := by decide +kernel
theorem d_Wi_rowOf_20 : decode prog_4_method_4_code 20 = .ok (.iconst 2, 1) := by decide +kernel
theorem d_Wi_rowOf_21 : decode prog_4_method_4_code 21 = .ok (.if_icmp .ne 24, 3) := by decide +kernel
theorem d_Wi_rowOf_24 : decode prog_4_method_4_code 24 = .ok (.iload_n 2, 1) := by decide +kernel
theorem d_Wi_rowOf_25 : decode prog_4_method_4_code 25 = .ok (.iconst 1, 1) := by decide +kernel
theorem d_Wi_rowOf_26 : decode prog_4_method_4_code 26 = .ok (.iadd, 1) := by decide +kernel
theorem d_Wi_rowOf_27 : decode prog_4_method_4_code 27 = .ok (.iload_n 2, 1) := by decide +kernel
theorem d_Wi_rowOf_28 : decode prog_4_method_4_code 28 = .ok (.iconst 1, 1) := by decide +kernel
theorem d_Wi_rowOf_29 : decode prog_4_method_4_code 29 = .ok (.iadd, 1) := by decide +kernel
theorem d_Wi_rowOf_30 : decode prog_4_method_4_code 30 = .ok (.ineg, 1) := by decide +kernel
theorem d_Wi_rowOf_31 : decode prog_4_method_4_code 31 = .ok (.iand, 1) := by decide +kernel
theorem d_Wi_rowOf_32 : decode prog_4_method_4_code 32 = .ok (.istore_n 3, 1) := by decide +kernel
theorem d_Wi_rowOf_33 : decode prog_4_method_4_code 33 = .ok (.iconst 1, 1) := by decide +kernel
theorem d_Wi_rowOf_34 : decode prog_4_method_4_code 34 = .ok (.iload_n 3, 1) := by decide +kernel
theorem d_Wi_rowOf_35 : decode prog_4_method_4_code 35 = .ok (.ishl, 1) := by decide +kernel
theorem d_Wi_rowOf_36 : decode prog_4_method_4_code 36 = .ok (.iconst 1, 1) := by decide +kernel
theorem d_Wi_rowOf_37 : decode prog_4_method_4_code 37 = .ok (.isub, 1) := by decide +kernel
theorem d_Wi_rowOf_38 : decode prog_4_method_4_code 38 = .ok (.iload_n 2, 1) := by decide +kernel
theorem d_Wi_rowOf_39 : decode prog_4_method_4_code 39 = .ok (.iconst 1, 1) := by decide +kernel
theorem d_Wi_rowOf_40 : decode prog_4_method_4_code 40 = .ok (.iadd, 1) := by decide +kernel
theorem d_Wi_rowOf_41 : decode prog_4_method_4_code 41 = .ok (.iload_n 3, 1) := by decide +kernel
theorem d_Wi_rowOf_42 : decode prog_4_method_4_code 42 = .ok (.isub, 1) := by decide +kernel
theorem d_Wi_rowOf_43 : decode prog_4_method_4_code 43 = .ok (.ishl, 1) := by decide +kernel
theorem d_Wi_rowOf_44 : decode prog_4_method_4_code 44 = .ok (.ireturn, 1) := by decide +kernel
theorem d_Wi_rowOf_45 : decode prog_4_method_4_code 45 = .ok (.aload_n 0, 1) := by decide +kernel
theorem d_Wi_rowOf_46 : decode prog_4_method_4_code 46 = .ok (.getfield 9, 3) := by decide +kernel
theorem d_Wi_rowOf_49 : decode prog_4_method_4_code 49 = .ok (.iload_n 2, 1) := by decide +kernel
theorem d_Wi_rowOf_50 : decode prog_4_method_4_code 50 = .ok (.iaload, 1) := by decide +kernel
theorem d_Wi_rowOf_51 : decode prog_4_method_4_code 51 = .ok (.ireturn, 1) := by decide +kernel
theorem d_Wi_bringUp_0 : decode prog_4_method_6_code 0 = .ok (.iload_n 1, 1) := by decide +kernel
theorem d_Wi_bringUp_1 : decode prog_4_method_6_code 1 = .ok (.istore_n 2, 1) := by decide +kernel
theorem d_Wi_bringUp_2 : decode prog_4_method_6_code 2 = .ok (.iload_n 2, 1) := by decide +kernel
theorem d_Wi_bringUp_3 : decode prog_4_method_6_code 3 = .ok (.aload_n 0, 1) := by decide +kernel
theorem d_Wi_bringUp_4 : decode prog_4_method_6_code 4 = .ok (.getfield 27, 3) := by decide +kernel
theorem d_Wi_bringUp_7 : decode prog_4_method_6_code 7 = .ok (.if_icmp .ge 78, 3) := by decide +kernel
theorem d_Wi_bringUp_10 : decode prog_4_method_6_code 10 = .ok (.aload_n 0, 1) := by decide +kernel
theorem d_Wi_bringUp_11 : decode prog_4_method_6_code 11 = .ok (.getfield 24, 3) := by decide +kernel
theorem d_Wi_bringUp_14 : decode prog_4_method_6_code 14 = .ok (.iload_n 2, 1) := by decide +kernel
theorem d_Wi_bringUp_15 : decode prog_4_method_6_code 15 = .ok (.iaload, 1) := by decide +kernel
theorem d_Wi_bringUp_16 : decode prog_4_method_6_code 16 = .ok (.iload_n 1, 1) := by decide +kernel
theorem d_Wi_bringUp_17 : decode prog_4_method_6_code 17 = .ok (.invokestatic 45, 3) := by decide +kernel
theorem d_Wi_bringUp_20 : decode prog_4_method_6_code 20 = .ok (.ifCond .eq 59, 3) := by decide +kernel
theorem d_Wi_bringUp_23 : decode prog_4_method_6_code 23 = .ok (.aload_n 0, 1) := by decide +kernel
theorem d_Wi_bringUp_24 : decode prog_4_method_6_code 24 = .ok (.getfield 24, 3) := by decide +kernel
theorem d_Wi_bringUp_27 : decode prog_4_method_6_code 27 = .ok (.iload_n 1, 1) := by decide +kernel
theorem d_Wi_bringUp_28 : decode prog_4_method_6_code 28 = .ok (.iaload, 1) := by decide +kernel
theorem d_Wi_bringUp_29 : decode prog_4_method_6_code 29 = .ok (.istore_n 3, 1) := by decide +kernel
theorem d_Wi_bringUp_30 : decode prog_4_method_6_code 30 = .ok (.aload_n 0, 1) := by decide +kernel
theorem d_Wi_bringUp_31 : decode prog_4_method_6_code 31 = .ok (.getfield 21, 3) := by decide +kernel
theorem d_Wi_bringUp_34 : decode prog_4_method_6_code 34 = .ok (.iload_n 1, 1) := by decide +kernel
theorem d_Wi_bringUp_35 : decode prog_4_method_6_code 35 = .ok (.iaload, 1) := by decide +kernel
theorem d_Wi_bringUp_36 : decode prog_4_method_6_code 36 = .ok (.istore 4, 2) := by decide +kernel
theorem d_Wi_bringUp_38 : decode prog_4_method_6_code 38 = .ok (.aload_n 0, 1) := by decide +kernel
theorem d_Wi_bringUp_39 : decode prog_4_method_6_code 39 = .ok (.getfield 24, 3) := by decide +kernel
theorem d_Wi_bringUp_42 : decode prog_4_method_6_code 42 = .ok (.iload_n 1, 1) := by decide +kernel
theorem d_Wi_bringUp_43 : decode prog_4_method_6_code 43 = .ok (.aload_n 0, 1) := by decide +kernel
theorem d_Wi_bringUp_44 : decode prog_4_method_6_code 44 = .ok (.getfield 24, 3) := by decide +kernel
theorem d_Wi_bringUp_47 : decode prog_4_method_6_code 47 = .ok (.iload_n 2, 1) := by decide +kernel
theorem d_Wi_bringUp_48 : decode prog_4_method_6_code 48 = .ok (.iaload, 1) := by decide +kernel
theorem d_Wi_bringUp_49 : decode prog_4_method_6_code 49 = .ok (.iastore, 1) := by decide +kernel
theorem d_Wi_bringUp_50 : decode prog_4_method_6_code 50 = .ok (.aload_n 0, 1) := by decide +kernel
theorem d_Wi_bringUp_51 : decode prog_4_method_6_code 51 = .ok (.getfield 21, 3) := by decide +kernel
theorem d_Wi_bringUp_54 : decode prog_4_method_6_code 54 = .ok (.iload_n 1, 1) := by decide +kernel
theorem d_Wi_bringUp_55 : decode prog_4_method_6_code 55 = .ok (.aload_n 0, 1) := by decide +kernel
theorem d_Wi_bringUp_56 : decode prog_4_method_6_code 56 = .ok (.getfield 21, 3) := by decide +kernel
theorem d_Wi_bringUp_59 : decode prog_4_method_6_code 59 = .ok (.iload_n 2, 1) := by decide +kernel
theorem d_Wi_bringUp_60 : decode prog_4_method_6_code 60 = .ok (.iaload, 1) := by decide +kernel
theorem d_Wi_bringUp_61 : decode prog_4_method_6_code 61 = .ok (.iastore, 1) := by decide +kernel
theorem d_Wi_bringUp_62 : decode prog_4_method_6_code 62 = .ok (.aload_n 0, 1) := by decide +kernel
theorem d_Wi_bringUp_63 : decode prog_4_method_6_code 63 = .ok (.getfield 24, 3) := by decide +kernel
theorem d_Wi_bringUp_66 : decode prog_4_method_6_code 66 = .ok (.iload_n 2, 1) := by decide +kernel
theorem d_Wi_bringUp_67 : decode prog_4_method_6_code 67 = .ok (.iload_n 3, 1) := by decide +kernel
theorem d_Wi_bringUp_68 : decode prog_4_method_6_code 68 = .ok (.iastore, 1) := by decide +kernel
theorem d_Wi_bringUp_69 : decode prog_4_method_6_code 69 = .ok (.aload_n 0, 1) := by decide +kernel
theorem d_Wi_bringUp_70 : decode prog_4_method_6_code 70 = .ok (.getfield 21, 3) := by decide +kernel
theorem d_Wi_bringUp_73 : decode prog_4_method_6_code 73 = .ok (.iload_n 2, 1) := by decide +kernel
theorem d_Wi_bringUp_74 : decode prog_4_method_6_code 74 = .ok (.iload 4, 2) := by decide +kernel
theorem d_Wi_bringUp_76 : decode prog_4_method_6_code 76 = .ok (.iastore, 1) := by decide +kernel
theorem d_Wi_bringUp_77 : decode prog_4_method_6_code 77 = .ok (.iconst 1, 1) := by decide +kernel
theorem d_Wi_bringUp_78 : decode prog_4_method_6_code 78 = .ok (.ireturn, 1) := by decide +kernel
theorem d_Wi_bringUp_79 : decode prog_4_method_6_code 79 = .ok (.iinc 2 1, 3) := by decide +kernel
theorem d_Wi_bringUp_82 : decode prog_4_method_6_code 82 = .ok (.goto (-80), 3) := by decide +kernel
theorem d_Wi_bringUp_85 : decode prog_4_method_6_code 85 = .ok (.iconst 0, 1) := by decide +kernel
theorem d_Wi_bringUp_86 : decode prog_4_method_6_code 86 = .ok (.ireturn, 1) := by decide +kernel
theorem d_Wi_turnRound_0 : decode prog_4_method_5_code 0 = .ok (.iconst 0, 1) := by decide +kernel
theorem d_Wi_turnRound_1 : decode prog_4_method_5_code 1 = .ok (.istore_n 2, 1) := by decide +kernel
theorem d_Wi_turnRound_2 : decode prog_4_method_5_code 2 = .ok (.iload_n 2, 1) := by decide +kernel
theorem d_Wi_turnRound_3 : decode prog_4_method_5_code 3 = .ok (.aload_n 0, 1) := by decide +kernel
theorem d_Wi_turnRound_4 : decode prog_4_method_5_code 4 = .ok (.getfield 27, 3) := by decide +kernel
theorem d_Wi_turnRound_7 : decode prog_4_method_5_code 7 = .ok (.if_icmp .ge 30, 3) := by decide +kernel
theorem d_Wi_turnRound_10 : decode prog_4_method_5_code 10 = .ok (.aload_n 0, 1) := by decide +kernel
theorem d_Wi_turnRound_11 : decode prog_4_method_5_code 11 = .ok (.getfield 24, 3) := by decide +kernel
theorem d_Wi_turnRound_14 : decode prog_4_method_5_code 14 = .ok (.iload_n 2, 1) := by decide +kernel
theorem d_Wi_turnRound_15 : decode prog_4_method_5_code 15 = .ok (.aload_n 0, 1) := by decide +kernel
theorem d_Wi_turnRound_16 : decode prog_4_method_5_code 16 = .ok (.iload_n 1, 1) := by decide +kernel
theorem d_Wi_turnRound_17 : decode prog_4_method_5_code 17 = .ok (.iload_n 2, 1) := by decide +kernel
theorem d_Wi_turnRound_18 : decode prog_4_method_5_code 18 = .ok (.invokevirtual 38, 3) := by decide +kernel
theorem d_Wi_turnRound_21 : decode prog_4_method_5_code 21 = .ok (.iastore, 1) := by decide +kernel
theorem d_Wi_turnRound_22 : decode prog_4_method_5_code 22 = .ok (.aload_n 0, 1) := by decide +kernel
theorem d_Wi_turnRound_23 : decode prog_4_method_5_code 23 = .ok (.getfield 21, 3) := by decide +kernel
theorem d_Wi_turnRound_26 : decode prog_4_method_5_code 26 = .ok (.iload_n 2, 1) := by decide +kernel
theorem d_Wi_turnRound_27 : decode prog_4_method_5_code 27 = .ok (.iconst 1, 1) := by decide +kernel
theorem d_Wi_turnRound_28 : decode prog_4_method_5_code 28 = .ok (.iload_n 2, 1) := by decide +kernel
theorem d_Wi_turnRound_29 : decode prog_4_method_5_code 29 = .ok (.ishl, 1) := by decide +kernel
theorem d_Wi_turnRound_30 : decode prog_4_method_5_code 30 = .ok (.iastore, 1) := by decide +kernel
theorem d_Wi_turnRound_31 : decode prog_4_method_5_code 31 = .ok (.iinc 2 1, 3) := by decide +kernel
theorem d_Wi_turnRound_34 : decode prog_4_method_5_code 34 = .ok (.goto (-32), 3) := by decide +kernel
theorem d_Wi_turnRound_37 : decode prog_4_method_5_code 37 = .ok (.iconst 0, 1) := by decide +kernel
theorem d_Wi_turnRound_38 : decode prog_4_method_5_code 38 = .ok (.istore_n 2, 1) := by decide +kernel
theorem d_Wi_turnRound_39 : decode prog_4_method_5_code 39 = .ok (.iload_n 2, 1) := by decide +kernel
theorem d_Wi_turnRound_40 : decode prog_4_method_5_code 40 = .ok (.aload_n 0, 1) := by decide +kernel
theorem d_Wi_turnRound_41 : decode prog_4_method_5_code 41 = .ok (.getfield 27, 3) := by decide +kernel
theorem d_Wi_turnRound_44 : decode prog_4_method_5_code 44 = .ok (.if_icmp .ge 83, 3) := by decide +kernel
theorem d_Wi_turnRound_47 : decode prog_4_method_5_code 47 = .ok (.aload_n 0, 1) := by decide +kernel
theorem d_Wi_turnRound_48 : decode prog_4_method_5_code 48 = .ok (.iload_n 2, 1) := by decide +kernel
theorem d_Wi_turnRound_49 : decode prog_4_method_5_code 49 = .ok (.invokevirtual 42, 3) := by decide +kernel
theorem d_Wi_turnRound_52 : decode prog_4_method_5_code 52 = .ok (.ifCond .ne 5, 3) := by decide +kernel
theorem d_Wi_turnRound_55 : decode prog_4_method_5_code 55 = .ok (.iconst 0, 1) := by decide +kernel
theorem d_Wi_turnRound_56 : decode prog_4_method_5_code 56 = .ok (.ireturn, 1) := by decide +kernel
theorem d_Wi_turnRound_57 : decode prog_4_method_5_code 57 = .ok (.iconst 0, 1) := by decide +kernel
theorem d_Wi_turnRound_58 : decode prog_4_method_5_code 58 = .ok (.istore_n 3, 1) := by decide +kernel
theorem d_Wi_turnRound_59 : decode prog_4_method_5_code 59 = .ok (.iload_n 3, 1) := by decide +kernel
theorem d_Wi_turnRound_60 : decode prog_4_method_5_code 60 = .ok (.aload_n 0, 1) := by decide +kernel
theorem d_Wi_turnRound_61 : decode prog_4_method_5_code 61 = .ok (.getfield 27, 3) := by decide +kernel
theorem d_Wi_turnRound_64 : decode prog_4_method_5_code 64 = .ok (.if_icmp .ge 57, 3) := by decide +kernel
theorem d_Wi_turnRound_67 : decode prog_4_method_5_code 67 = .ok (.iload_n 3, 1) := by decide +kernel
theorem d_Wi_turnRound_68 : decode prog_4_method_5_code 68 = .ok (.iload_n 2, 1) := by decide +kernel
theorem d_Wi_turnRound_69 : decode prog_4_method_5_code 69 = .ok (.if_icmp .eq 46, 3) := by decide +kernel
theorem d_Wi_turnRound_72 : decode prog_4_method_5_code 72 = .ok (.aload_n 0, 1) := by decide +kernel
theorem d_Wi_turnRound_73 : decode prog_4_method_5_code 73 = .ok (.getfield 24, 3) := by decide +kernel
theorem d_Wi_turnRound_76 : decode prog_4_method_5_code 76 = .ok (.iload_n 3, 1) := by decide +kernel
theorem d_Wi_turnRound_77 : decode prog_4_method_5_code 77 = .ok (.iaload, 1) := by decide +kernel
theorem d_Wi_turnRound_78 : decode prog_4_method_5_code 78 = .ok (.iload_n 2, 1) := by decide +kernel
theorem d_Wi_turnRound_79 : decode prog_4_method_5_code 79 = .ok (.invokestatic 45, 3) := by decide +kernel
theorem d_Wi_turnRound_82 : decode prog_4_method_5_code 82 = .ok (.ifCond .eq 33, 3) := by decide +kernel
theorem d_Wi_turnRound_85 : decode prog_4_method_5_code 85 = .ok (.aload_n 0, 1) := by decide +kernel
theorem d_Wi_turnRound_86 : decode prog_4_method_5_code 86 = .ok (.getfield 24, 3) := by decide +kernel
theorem d_Wi_turnRound_89 : decode prog_4_method_5_code 89 = .ok (.iload_n 3, 1) := by decide +kernel
theorem d_Wi_turnRound_90 : decode prog_4_method_5_code 90 = .ok (.dup2, 1) := by decide +kernel
theorem d_Wi_turnRound_91 : decode prog_4_method_5_code 91 = .ok (.iaload, 1) := by decide +kernel
theorem d_Wi_turnRound_92 : decode prog_4_method_5_code 92 = .ok (.aload_n 0, 1) := by decide +kernel
theorem d_Wi_turnRound_93 : decode prog_4_method_5_code 93 = .ok (.getfield 24, 3) := by decide +kernel
theorem d_Wi_turnRound_96 : decode prog_4_method_5_code 96 = .ok (.iload_n 2, 1) := by decide +kernel
theorem d_Wi_turnRound_97 : decode prog_4_method_5_code 97 = .ok (.iaload, 1) := by decide +kernel
theorem d_Wi_turnRound_98 : decode prog_4_method_5_code 98 = .ok (.ixor, 1) := by decide +kernel
theorem d_Wi_turnRound_99 : decode prog_4_method_5_code 99 = .ok (.iastore, 1) := by decide +kernel
theorem d_Wi_turnRound_100 : decode prog_4_method_5_code 100 = .ok (.aload_n 0, 1) := by decide +kernel
theorem d_Wi_turnRound_101 : decode prog_4_method_5_code 101 = .ok (.getfield 21, 3) := by decide +kernel
theorem d_Wi_turnRound_104 : decode prog_4_method_5_code 104 = .ok (.iload_n 3, 1) := by decide +kernel
theorem d_Wi_turnRound_105 : decode prog_4_method_5_code 105 = .ok (.dup2, 1) := by decide +kernel
theorem d_Wi_turnRound_106 : decode prog_4_method_5_code 106 = .ok (.iaload, 1) := by decide +kernel
theorem d_Wi_turnRound_107 : decode prog_4_method_5_code 107 = .ok (.aload_n 0, 1) := by decide +kernel
theorem d_Wi_turnRound_108 : decode prog_4_method_5_code 108 = .ok (.getfield 21, 3) := by decide +kernel
theorem d_Wi_turnRound_111 : decode prog_4_method_5_code 111 = .ok (.iload_n 2, 1) := by decide +kernel
theorem d_Wi_turnRound_112 : decode prog_4_method_5_code 112 = .ok (.iaload, 1) := by decide +kernel
theorem d_Wi_turnRound_113 : decode prog_4_method_5_code 113 = .ok (.ixor, 1) := by decide +kernel
theorem d_Wi_turnRound_114 : decode prog_4_method_5_code 114 = .ok (.iastore, 1) := by decide +kernel
theorem d_Wi_turnRound_115 : decode prog_4_method_5_code 115 = .ok (.iinc 3 1, 3) := by decide +kernel
theorem d_Wi_turnRound_118 : decode prog_4_method_5_code 118 = .ok (.goto (-59), 3) := by decide +kernel
theorem d_Wi_turnRound_121 : decode prog_4_method_5_code 121 = .ok (.iinc 2 1, 3) := by decide +kernel
theorem d_Wi_turnRound_124 : decode prog_4_method_5_code 124 = .ok (.goto (-85), 3) := by decide +kernel
theorem d_Wi_turnRound_127 : decode prog_4_method_5_code 127 = .ok (.iconst 1, 1) := by decide +kernel
theorem d_Wi_turnRound_128 : decode prog_4_method_5_code 128 = .ok (.ireturn, 1) := by decide +kernel
theorem d_Wi_choose_0 : decode prog_4_method_3_code 0 = .ok (.aload_n 0, 1) := by decide +kernel
theorem d_Wi_choose_1 : decode prog_4_method_3_code 1 = .ok (.iload_n 1, 1) := by decide +kernel
theorem d_Wi_choose_2 : decode prog_4_method_3_code 2 = .ok (.invokevirtual 34, 3) := by decide +kernel
theorem d_Wi_choose_5 : decode prog_4_method_3_code 5 = .ok (.ifCond .ne 5, 3) := by decide +kernel
theorem d_Wi_choose_8 : decode prog_4_method_3_code 8 = .ok (.iconst 0, 1) := by decide +kernel
theorem d_Wi_choose_9 : decode prog_4_method_3_code 9 = .ok (.ireturn, 1) := by decide +kernel
theorem d_Wi_choose_10 : decode prog_4_method_3_code 10 = .ok (.aload_n 0, 1) := by decide +kernel
theorem d_Wi_choose_11 : decode prog_4_method_3_code 11 = .ok (.getfield 18, 3) := by decide +kernel
theorem d_Wi_choose_14 : decode prog_4_method_3_code 14 = .ok (.astore_n 2, 1) := by decide +kernel
theorem d_Wi_choose_15 : decode prog_4_method_3_code 15 = .ok (.aload_n 0, 1) := by decide +kernel
theorem d_Wi_choose_16 : decode prog_4_method_3_code 16 = .ok (.aload_n 0, 1) := by decide +kernel
theorem d_Wi_choose_17 : decode prog_4_method_3_code 17 = .ok (.getfield 21, 3) := by decide +kernel
theorem d_Wi_choose_20 : decode prog_4_method_3_code 20 = .ok (.putfield 18, 3) := by decide +kernel
theorem d_Wi_choose_23 : decode prog_4_method_3_code 23 = .ok (.aload_n 0, 1) := by decide +kernel
theorem d_Wi_choose_24 : decode prog_4_method_3_code 24 = .ok (.aload_n 2, 1) := by decide +kernel
theorem d_Wi_choose_25 : decode prog_4_method_3_code 25 = .ok (.putfield 21, 3) := by decide +kernel
theorem d_Wi_choose_28 : decode prog_4_method_3_code 28 = .ok (.aload_n 0, 1) := by decide +kernel
theorem d_Wi_choose_29 : decode prog_4_method_3_code 29 = .ok (.iload_n 1, 1) := by decide +kernel
theorem d_Wi_choose_30 : decode prog_4_method_3_code 30 = .ok (.putfield 31, 3) := by decide +kernel
theorem d_Wi_choose_33 : decode prog_4_method_3_code 33 = .ok (.iconst 0, 1) := by decide +kernel
theorem d_Wi_choose_34 : decode prog_4_method_3_code 34 = .ok (.istore_n 3, 1) := by decide +kernel
theorem d_Wi_choose_35 : decode prog_4_method_3_code 35 = .ok (.iload_n 3, 1) := by decide +kernel
theorem d_Wi_choose_36 : decode prog_4_method_3_code 36 = .ok (.aload_n 0, 1) := by decide +kernel
theorem d_Wi_choose_37 : decode prog_4_method_3_code 37 = .ok (.getfield 27, 3) := by decide +kernel
theorem d_Wi_choose_40 : decode prog_4_method_3_code 40 = .ok (.if_icmp .ge 21, 3) := by decide +kernel
theorem d_Wi_choose_43 : decode prog_4_method_3_code 43 = .ok (.aload_n 0, 1) := by decide +kernel
theorem d_Wi_choose_44 : decode prog_4_method_3_code 44 = .ok (.getfield 15, 3) := by decide +kernel
theorem d_Wi_choose_47 : decode prog_4_method_3_code 47 = .ok (.iload_n 3, 1) := by decide +kernel
theorem d_Wi_choose_48 : decode prog_4_method_3_code 48 = .ok (.aload_n 0, 1) := by decide +kernel
theorem d_Wi_choose_49 : decode prog_4_method_3_code 49 = .ok (.iload_n 1, 1) := by decide +kernel
theorem d_Wi_choose_50 : decode prog_4_method_3_code 50 = .ok (.iload_n 3, 1) := by decide +kernel
theorem d_Wi_choose_51 : decode prog_4_method_3_code 51 = .ok (.invokevirtual 38, 3) := by decide +kernel
theorem d_Wi_choose_54 : decode prog_4_method_3_code 54 = .ok (.iastore, 1) := by decide +kernel
theorem d_Wi_choose_55 : decode prog_4_method_3_code 55 = .ok (.iinc 3 1, 3) := by decide +kernel
theorem d_Wi_choose_58 : decode prog_4_method_3_code 58 = .ok (.goto (-23), 3) := by decide +kernel
theorem d_Wi_choose_61 : decode prog_4_method_3_code 61 = .ok (.iconst 1, 1) := by decide +kernel
theorem d_Wi_choose_62 : decode prog_4_method_3_code 62 = .ok (.ireturn, 1) := by decide +kernel
theorem d_Wi_bits_0 : decode prog_4_method_7_code 0 = .ok (.iconst 0, 1) := by decide +kernel
theorem d_Wi_bits_1 : decode prog_4_method_7_code 1 = .ok (.istore_n 3, 1) := by decide +kernel
theorem d_Wi_bits_2 : decode prog_4_method_7_code 2 = .ok (.iconst 0, 1) := by decide +kernel
theorem d_Wi_bits_3 : decode prog_4_method_7_code 3 = .ok (.istore 4, 2) := by decide +kernel
theorem d_Wi_bits_5 : decode prog_4_method_7_code 5 = .ok (.iload 4, 2) := by decide +kernel
theorem d_Wi_bits_7 : decode prog_4_method_7_code 7 = .ok (.aload_n 0, 1) := by decide +kernel
theorem d_Wi_bits_8 : decode prog_4_method_7_code 8 = .ok (.getfield 27, 3) := by decide +kernel
theorem d_Wi_bits_11 : decode prog_4_method_7_code 11 = .ok (.if_icmp .ge 28, 3) := by decide +kernel
theorem d_Wi_bits_14 : decode prog_4_method_7_code 14 = .ok (.aload_n 1, 1) := by decide +kernel
theorem d_Wi_bits_15 : decode prog_4_method_7_code 15 = .ok (.iload 4, 2) := by decide +kernel
theorem d_Wi_bits_17 : decode prog_4_method_7_code 17 = .ok (.iaload, 1) := by decide +kernel
theorem d_Wi_bits_18 : decode prog_4_method_7_code 18 = .ok (.iload_n 2, 1) := by decide +kernel
theorem d_Wi_bits_19 : decode prog_4_method_7_code 19 = .ok (.iand, 1) := by decide +kernel
theorem d_Wi_bits_20 : decode prog_4_method_7_code 20 = .ok (.invokestatic 49, 3) := by decide +kernel
theorem d_Wi_bits_23 : decode prog_4_method_7_code 23 = .ok (.ifCond .eq 10, 3) := by decide +kernel
theorem d_Wi_bits_26 : decode prog_4_method_7_code 26 = .ok (.iload_n 3, 1) := by decide +kernel
theorem d_Wi_bits_27 : decode prog_4_method_7_code 27 = .ok (.iconst 1, 1) := by decide +kernel
theorem d_Wi_bits_28 : decode prog_4_method_7_code 28 = .ok (.iload 4, 2) := by decide +kernel
theorem d_Wi_bits_30 : decode prog_4_method_7_code 30 = .ok (.ishl, 1) := by decide +kernel
theorem d_Wi_bits_31 : decode prog_4_method_7_code 31 = .ok (.ior, 1) := by decide +kernel
theorem d_Wi_bits_32 : decode prog_4_method_7_code 32 = .ok (.istore_n 3, 1) := by decide +kernel
theorem d_Wi_bits_33 : decode prog_4_method_7_code 33 = .ok (.iinc 4 1, 3) := by decide +kernel
theorem d_Wi_bits_36 : decode prog_4_method_7_code 36 = .ok (.goto (-31), 3) := by decide +kernel
theorem d_Wi_bits_39 : decode prog_4_method_7_code 39 = .ok (.iload_n 3, 1) := by decide +kernel
theorem d_Wi_bits_40 : decode prog_4_method_7_code 40 = .ok (.ireturn, 1) := by decide +kernel
theorem d_Wi_signsOf_0 : decode prog_4_method_8_code 0 = .ok (.iconst 0, 1) := by decide +kernel
theorem d_Wi_signsOf_1 : decode prog_4_method_8_code 1 = .ok (.istore_n 2, 1) := by decide +kernel
theorem d_Wi_signsOf_2 : decode prog_4_method_8_code 2 = .ok (.iconst 0, 1) := by decide +kernel
theorem d_Wi_signsOf_3 : decode prog_4_method_8_code 3 = .ok (.istore_n 3, 1) := by decide +kernel
theorem d_Wi_signsOf_4 : decode prog_4_method_8_code 4 = .ok (.iload_n 3, 1) := by decide +kernel
theorem d_Wi_signsOf_5 : decode prog_4_method_8_code 5 = .ok (.aload_n 0, 1) := by decide +kernel
theorem d_Wi_signsOf_6 : decode prog_4_method_8_code 6 = .ok (.getfield 27, 3) := by decide +kernel
theorem d_Wi_signsOf_9 : decode prog_4_method_8_code 9 = .ok (.if_icmp .ge 26, 3) := by decide +kernel
theorem d_Wi_signsOf_12 : decode prog_4_method_8_code 12 = .ok (.iload_n 1, 1) := by decide +kernel
theorem d_Wi_signsOf_13 : decode prog_4_method_8_code 13 = .ok (.iload_n 3, 1) := by decide +kernel
theorem d_Wi_signsOf_14 : decode prog_4_method_8_code 14 = .ok (.invokestatic 45, 3) := by decide +kernel
theorem d_Wi_signsOf_17 : decode prog_4_method_8_code 17 = .ok (.ifCond .eq 12, 3) := by decide +kernel
theorem d_Wi_signsOf_20 : decode prog_4_method_8_code 20 = .ok (.iload_n 2, 1) := by decide +kernel
theorem d_Wi_signsOf_21 : decode prog_4_method_8_code 21 = .ok (.aload_n 0, 1) := by decide +kernel
theorem d_Wi_signsOf_22 : decode prog_4_method_8_code 22 = .ok (.getfield 18, 3) := by decide +kernel
theorem d_Wi_signsOf_25 : decode prog_4_method_8_code 25 = .ok (.iload_n 3, 1) := by decide +kernel
theorem d_Wi_signsOf_26 : decode prog_4_method_8_code 26 = .ok (.iaload, 1) := by decide +kernel
theorem d_Wi_signsOf_27 : decode prog_4_method_8_code 27 = .ok (.ixor, 1) := by decide +kernel
theorem d_Wi_signsOf_28 : decode prog_4_method_8_code 28 = .ok (.istore_n 2, 1) := by decide +kernel
theorem d_Wi_signsOf_29 : decode prog_4_method_8_code 29 = .ok (.iinc 3 1, 3) := by decide +kernel
theorem d_Wi_signsOf_32 : decode prog_4_method_8_code 32 = .ok (.goto (-28), 3) := by decide +kernel
theorem d_Wi_signsOf_35 : decode prog_4_method_8_code 35 = .ok (.iload_n 2, 1) := by decide +kernel
theorem d_Wi_signsOf_36 : decode prog_4_method_8_code 36 = .ok (.ireturn, 1) := by decide +kernel
/-! FermionMaps$Wiring.reset(I)V -/
def b_Wi_reset_12 (F : Nat) : Nat → Int32 → Int32 → Int32 → (Nat → Int32) → (Nat → Int32) → (Nat → Int32) → Option (Int32 × Int32 × (Nat → Int32) × (Nat → Int32) × (Nat → Int32))
  | 0, _, _, _, _, _, _ => none
  | n + 1, x2, size, kind, told, rows, back =>
    if 8 ≤ x2 then
      some (size, kind, told, rows, back)
    else
      nm (((1 : Int32) <<< (x2 &&& 31)) : Int32) fun t_2 =>
      ckI x2 8 <|
      nm (((1 : Int32) <<< (x2 &&& 31)) : Int32) fun t_4 =>
      ckI x2 8 <|
      nm (((1 : Int32) <<< (x2 &&& 31)) : Int32) fun t_6 =>
      ckI x2 8 <|
      nm (x2 + 1 : Int32) fun x2_8 =>
      b_Wi_reset_12 F n x2_8 size kind (upd told x2.toNatClampNeg t_2) (upd rows x2.toNatClampNeg t_4) (upd back x2.toNatClampNeg t_6)
def f_Wi_reset (F : Nat) (size : Int32) (kind : Int32) (told : Nat → Int32) (rows : Nat → Int32) (back : Nat → Int32) (p1 : Int32) : Option (Int32 × Int32 × (Nat → Int32) × (Nat → Int32) × (Nat → Int32)) :=
  b_Wi_reset_12 F F 0 p1 0 told rows back
abbrev rm_Wi_reset : Room := { frames := 0, cells := 0, slots := 0, locals := 0 }
set_option maxHeartbeats 4000000 in
set_option maxRecDepth 100000 in
theorem c_Wi_reset (l : Launch) (dC : Nat → ClassId) (dI : Nat → Nat → Nat) (cI cJ : ClassId) (a_p0 a_told a_rows a_back z_spareBack z_left : Nat) (sz : Nat) (size : Int32) (kind : Int32) (told : Nat → Int32) (rows : Nat → Int32) (back : Nat → Int32) (p1 : Int32) (F : Nat) (u : Int32 × Int32 × (Nat → Int32) × (Nat → Int32) × (Nat → Int32)) (hf : f_Wi_reset F size kind told rows back p1 = some u) : Met l y_Wi_reset (Cond.code y_Wi_reset prog_4_method_2_code 3 none :: T0) rm_Wi_reset (va_Pc [.ref a_p0, .int p1] (Ww (dC, dI) [(a_p0, .inr (2, [.ref a_told, .ref a_rows, .ref a_back, .ref z_spareBack, .ref z_left, .int size, .int kind])), (a_told, .inl (cI, 8, .inl told)), (a_rows, .inl (cI, 8, .inl rows)), (a_back, .inl (cI, 8, .inl back))] [(cI, .int), (cJ, .long)] sz)) (va_Qv (fun _ : Unit => True) (Bw (dC, dI) [(cI, .int), (cJ, .long)] (va_A [(a_p0, .inr (2, [.ref a_told, .ref a_rows, .ref a_back, .ref z_spareBack, .ref z_left, .int size, .int kind])), (a_told, .inl (cI, 8, .inl told)), (a_rows, .inl (cI, 8, .inl rows)), (a_back, .inl (cI, 8, .inl back))] sz) (fun w1 => w1 = [(a_p0, .inr (2, [.ref a_told, .ref a_rows, .ref a_back, .ref z_spareBack, .ref z_left, .int u.1, .int u.2.1])), (a_told, .inl (cI, 8, .inl u.2.2.1)), (a_rows, .inl (cI, 8, .inl u.2.2.2.1)), (a_back, .inl (cI, 8, .inl u.2.2.2.2))])) (va_A [(a_p0, .inr (2, [.ref a_told, .ref a_rows, .ref a_back, .ref z_spareBack, .ref z_left, .int size, .int kind])), (a_told, .inl (cI, 8, .inl told)), (a_rows, .inl (cI, 8, .inl rows)), (a_back, .inl (cI, 8, .inl back))] sz)) 0 0 (va_A [(a_p0, .inr (2, [.ref a_told, .ref a_rows, .ref a_back, .ref z_spareBack, .ref z_left, .int size, .int kind])), (a_told, .inl (cI, 8, .inl told)), (a_rows, .inl (cI, 8, .inl rows)), (a_back, .inl (cI, 8, .inl back))] sz) := by
  refine Met.ofW (cc := prog_4_method_2_code) (maxL := 3) (ret := none) (by decide) rfl ?_
  intro p e s m args below meth c s₁ B hml hv
  obtain ⟨rfl, hsz, hP, hK, hD0, hNW⟩ := hv
  have hx := B.exec
  have hb := B.bytes
  have hr := B.returns
  have hts := atoms_spec (ws := Cond.code y_Wi_reset prog_4_method_2_code 3 none :: T0) B.pre
  have ht0 : ∀ w ∈ T0, w.before ([.ref a_p0, .int p1] : List Value).toArray s = true := fun w h => hts w (List.mem_cons_of_mem _ h)
  have hown : s.vm.findClass "FermionMaps$Wiring" = some m.cls := findClass_of_methodNamed B.named
  have hlocks := B.notSynchronized
  subst hsz
  have hD := hD0.self (sz := s.heap.size)
  generalize hAe : va_A [(a_p0, .inr (2, [.ref a_told, .ref a_rows, .ref a_back, .ref z_spareBack, .ref z_left, .int size, .int kind])), (a_told, .inl (cI, 8, .inl told)), (a_rows, .inl (cI, 8, .inl rows)), (a_back, .inl (cI, 8, .inl back))] s.heap.size = A at hD ⊢
  have hA : ∀ q : Nat, s.heap.size ≤ q → A q := fun q h => by rw [← hAe]; exact Or.inr h
  have hS : va_S A s.heap s.heap [] := va_S.rf
  have hl := lv_entry ([.ref a_p0, .int p1]) (n := 3) (Nat.le_of_ble_eq_true rfl)
  rw [lg_entry_eq]
  generalize (lg_sl ([.ref a_p0, .int p1]) ++ List.replicate (3 - (lg_sl ([.ref a_p0, .int p1])).length) Slot.unset).toArray = ls at hl ⊢
  have hl : lv_has ls 3 [(0, .ref a_p0), (1, .int p1)] := hl
  refine W.nameQ (fun Q hQ => ?_)
  have B_12 : ∀ (n : Nat), ∀ (x2 : Int32) (size : Int32) (kind : Int32) (told : Nat → Int32) (rows : Nat → Int32) (back : Nat → Int32) (H : Heap) (locs : List Loc) (ls : Array Slot), b_Wi_reset_12 F n x2 size kind told rows back = some u → va_P (dC, dI) cls [(a_p0, .inr (2, [.ref a_told, .ref a_rows, .ref a_back, .ref z_spareBack, .ref z_left, .int size, .int kind])), (a_told, .inl (cI, 8, .inl told)), (a_rows, .inl (cI, 8, .inl rows)), (a_back, .inl (cI, 8, .inl back))] H → va_D A [(a_p0, .inr (2, [.ref a_told, .ref a_rows, .ref a_back, .ref z_spareBack, .ref z_left, .int size, .int kind])), (a_told, .inl (cI, 8, .inl told)), (a_rows, .inl (cI, 8, .inl rows)), (a_back, .inl (cI, 8, .inl back))] → va_S A s.heap H locs → lv_has ls 3 [(0, .ref a_p0), (2, .int x2)] → W p l e (headSpec (Cond.code y_Wi_reset prog_4_method_2_code 3 none :: T0) rm_Wi_reset).room s m ([.ref a_p0, .int p1] : List Value).toArray below meth c H locs 0 0 Q (F0 m 12 ls []) := by
    intro n
    induction n with
    | zero =>
      intro x2 size kind told rows back H locs ls hf hP hD hS hl
      exact no_fuel hf
    | succ n ih =>
      intro x2 size kind told rows back H locs ls hf hP hD hS hl
      rw [b_Wi_reset_12] at hf
      refine lv_iload_n hx hb d_Wi_reset_12 rfl (lv_at hl 1 rfl) ?_
      refine lv_bipush (v := 8) hx hb d_Wi_reset_13 (by decide) ?_
      refine lv_icmp_ge (tgt := 51) hx hb d_Wi_reset_15 (by decide) (fun c_1 => ?_) (fun c_1 => ?_)
      · replace hf := if_t c_1 hf
        have hu := Option.some.inj hf
        subst hu
        exact rw_v hQ rfl hP hD hK hS hx hb hr hlocks d_Wi_reset_51
      · replace hf := if_f c_1 hf
        refine lv_aload_n hx hb d_Wi_reset_18 rfl (lv_at hl 0 rfl) ?_
        refine va_get (D := (dC, dI)) (ci := 2) (v := .ref a_told) (C := "FermionMaps$Wiring") (T := F_Wi) (N := 7) hx hb ht0 i_Wi hown hK hP 0 rfl rfl 0 (by decide) (ht0 _ m_53) (fun _ h9 => h9) rfl d_Wi_reset_19 ?_
        refine lv_iload_n hx hb d_Wi_reset_22 rfl (lv_at hl 1 rfl) ?_
        refine lv_iconst (v := 1) hx hb d_Wi_reset_23 (by decide) ?_
        refine lv_iload_n hx hb d_Wi_reset_24 rfl (lv_at hl 1 rfl) ?_
        refine lv_ishl hx hb d_Wi_reset_25 ?_
        refine lv_topi (fun t_2 e_t_2 => ?_)
        replace hf := nm_eq e_t_2 hf
        obtain ⟨hi_3, hf⟩ := ckI_ok hf
        refine va_iast hx hb hK hP hD hS 1 0 rfl rfl hi_3 d_Wi_reset_26 (fun H locs hP hD hS => ?_)
        have hP : va_P (dC, dI) cls [(a_p0, .inr (2, [.ref a_told, .ref a_rows, .ref a_back, .ref z_spareBack, .ref z_left, .int size, .int kind])), (a_told, .inl (cI, 8, .inl (upd told x2.toNatClampNeg t_2))), (a_rows, .inl (cI, 8, .inl rows)), (a_back, .inl (cI, 8, .inl back))] H := hP
        have hD : va_D A [(a_p0, .inr (2, [.ref a_told, .ref a_rows, .ref a_back, .ref z_spareBack, .ref z_left, .int size, .int kind])), (a_told, .inl (cI, 8, .inl (upd told x2.toNatClampNeg t_2))), (a_rows, .inl (cI, 8, .inl rows)), (a_back, .inl (cI, 8, .inl back))] := hD
        refine lv_aload_n hx hb d_Wi_reset_27 rfl (lv_at hl 0 rfl) ?_
        refine va_get (D := (dC, dI)) (ci := 2) (v := .ref a_rows) (C := "FermionMaps$Wiring") (T := F_Wi) (N := 7) hx hb ht0 i_Wi hown hK hP 0 rfl rfl 1 (by decide) (ht0 _ m_55) (fun _ h9 => h9) rfl d_Wi_reset_28 ?_
        refine lv_iload_n hx hb d_Wi_reset_31 rfl (lv_at hl 1 rfl) ?_
        refine lv_iconst (v := 1) hx hb d_Wi_reset_32 (by decide) ?_
        refine lv_iload_n hx hb d_Wi_reset_33 rfl (lv_at hl 1 rfl) ?_
        refine lv_ishl hx hb d_Wi_reset_34 ?_
        refine lv_topi (fun t_4 e_t_4 => ?_)
        replace hf := nm_eq e_t_4 hf
        obtain ⟨hi_5, hf⟩ := ckI_ok hf
        refine va_iast hx hb hK hP hD hS 2 0 rfl rfl hi_5 d_Wi_reset_35 (fun H locs hP hD hS => ?_)
        have hP : va_P (dC, dI) cls [(a_p0, .inr (2, [.ref a_told, .ref a_rows, .ref a_back, .ref z_spareBack, .ref z_left, .int size, .int kind])), (a_told, .inl (cI, 8, .inl (upd told x2.toNatClampNeg t_2))), (a_rows, .inl (cI, 8, .inl (upd rows x2.toNatClampNeg t_4))), (a_back, .inl (cI, 8, .inl back))] H := hP
        have hD : va_D A [(a_p0, .inr (2, [.ref a_told, .ref a_rows, .ref a_back, .ref z_spareBack, .ref z_left, .int size, .int kind])), (a_told, .inl (cI, 8, .inl (upd told x2.toNatClampNeg t_2))), (a_rows, .inl (cI, 8, .inl (upd rows x2.toNatClampNeg t_4))), (a_back, .inl (cI, 8, .inl back))] := hD
        refine lv_aload_n hx hb d_Wi_reset_36 rfl (lv_at hl 0 rfl) ?_
        refine va_get (D := (dC, dI)) (ci := 2) (v := .ref a_back) (C := "FermionMaps$Wiring") (T := F_Wi) (N := 7) hx hb ht0 i_Wi hown hK hP 0 rfl rfl 2 (by decide) (ht0 _ m_58) (fun _ h9 => h9) rfl d_Wi_reset_37 ?_
        refine lv_iload_n hx hb d_Wi_reset_40 rfl (lv_at hl 1 rfl) ?_
        refine lv_iconst (v := 1) hx hb d_Wi_reset_41 (by decide) ?_
        refine lv_iload_n hx hb d_Wi_reset_42 rfl (lv_at hl 1 rfl) ?_
        refine lv_ishl hx hb d_Wi_reset_43 ?_
        refine lv_topi (fun t_6 e_t_6 => ?_)
        replace hf := nm_eq e_t_6 hf
        obtain ⟨hi_7, hf⟩ := ckI_ok hf
        refine va_iast hx hb hK hP hD hS 3 0 rfl rfl hi_7 d_Wi_reset_44 (fun H locs hP hD hS => ?_)
        have hP : va_P (dC, dI) cls [(a_p0, .inr (2, [.ref a_told, .ref a_rows, .ref a_back, .ref z_spareBack, .ref z_left, .int size, .int kind])), (a_told, .inl (cI, 8, .inl (upd told x2.toNatClampNeg t_2))), (a_rows, .inl (cI, 8, .inl (upd rows x2.toNatClampNeg t_4))), (a_back, .inl (cI, 8, .inl (upd back x2.toNatClampNeg t_6)))] H := hP
        have hD : va_D A [(a_p0, .inr (2, [.ref a_told, .ref a_rows, .ref a_back, .ref z_spareBack, .ref z_left, .int size, .int kind])), (a_told, .inl (cI, 8, .inl (upd told x2.toNatClampNeg t_2))), (a_rows, .inl (cI, 8, .inl (upd rows x2.toNatClampNeg t_4))), (a_back, .inl (cI, 8, .inl (upd back x2.toNatClampNeg t_6)))] := hD
        obtain ⟨x2_8, e_x2_8⟩ : ∃ y : Int32, y = x2 + 1 := ⟨_, rfl⟩
        replace hf := nm_eq e_x2_8 hf
        refine lv_iinc (v := x2_8) (lv' := [(2, .int x2_8), (0, .ref a_p0)]) hx hb d_Wi_reset_45 hl (k := 1) rfl (by rw [e_x2_8]; rfl) (by decide) rfl (fun ls hl => ?_)
        refine lv_goto (tgt := 12) hx hb d_Wi_reset_48 (by decide) ?_
        exact ih x2_8 size kind (upd told x2.toNatClampNeg t_2) (upd rows x2.toNatClampNeg t_4) (upd back x2.toNatClampNeg t_6) H locs ls hf hP hD hS (lv_sub hl [1, 0] rfl)
  rw [f_Wi_reset] at hf
  refine lv_aload_n hx hb d_Wi_reset_0 rfl (lv_at hl 0 rfl) ?_
  refine lv_iload_n hx hb d_Wi_reset_1 rfl (lv_at hl 1 rfl) ?_
  refine va_put (D := (dC, dI)) (ci := 2) (v := .int p1) (ty := .int) (C := "FermionMaps$Wiring") (T := F_Wi) (N := 7) hx hb ht0 i_Wi t_Wi t_Wi_ok n_Wi hown hK hP hD hS 0 rfl rfl 5 (by decide) (ht0 _ m_63) (fun _ h9 => h9) rfl (by decide +kernel) rfl rfl (Nat.le_of_ble_eq_true rfl) d_Wi_reset_2 (fun H locs hP hD hS => ?_)
  have hP : va_P (dC, dI) cls [(a_p0, .inr (2, [.ref a_told, .ref a_rows, .ref a_back, .ref z_spareBack, .ref z_left, .int p1, .int kind])), (a_told, .inl (cI, 8, .inl told)), (a_rows, .inl (cI, 8, .inl rows)), (a_back, .inl (cI, 8, .inl back))] H := hP
  have hD : va_D A [(a_p0, .inr (2, [.ref a_told, .ref a_rows, .ref a_back, .ref z_spareBack, .ref z_left, .int p1, .int kind])), (a_told, .inl (cI, 8, .inl told)), (a_rows, .inl (cI, 8, .inl rows)), (a_back, .inl (cI, 8, .inl back))] := hD
  refine lv_aload_n hx hb d_Wi_reset_5 rfl (lv_at hl 0 rfl) ?_
  refine lv_iconst (v := 0) hx hb d_Wi_reset_6 (by decide) ?_
  refine va_put (D := (dC, dI)) (ci := 2) (v := .int 0) (ty := .int) (C := "FermionMaps$Wiring") (T := F_Wi) (N := 7) hx hb ht0 i_Wi t_Wi t_Wi_ok n_Wi hown hK hP hD hS 0 rfl rfl 6 (by decide) (ht0 _ m_66) (fun _ h9 => h9) rfl (by decide +kernel) rfl rfl (Nat.le_of_ble_eq_true rfl) d_Wi_reset_7 (fun H locs hP hD hS => ?_)
  have hP : va_P (dC, dI) cls [(a_p0, .inr (2, [.ref a_told, .ref a_rows, .ref a_back, .ref z_spareBack, .ref z_left, .int p1, .int 0])), (a_told, .inl (cI, 8, .inl told)), (a_rows, .inl (cI, 8, .inl rows)), (a_back, .inl (cI, 8, .inl back))] H := hP
  have hD : va_D A [(a_p0, .inr (2, [.ref a_told, .ref a_rows, .ref a_back, .ref z_spareBack, .ref z_left, .int p1, .int 0])), (a_told, .inl (cI, 8, .inl told)), (a_rows, .inl (cI, 8, .inl rows)), (a_back, .inl (cI, 8, .inl back))] := hD
  refine lv_iconst (v := 0) hx hb d_Wi_reset_10 (by decide) ?_
  refine lv_istore_n (lv' := [(2, .int 0), (0, .ref a_p0), (1, .int p1)]) hx hb d_Wi_reset_11 rfl hl (by decide) rfl (fun ls hl => ?_)
  exact B_12 F 0 p1 0 told rows back H locs ls hf hP hD hS (lv_sub hl [1, 0] rfl)

/-! FermionMaps$Wiring.rowOf(II)I -/
def f_Wi_rowOf (F : Nat) (told : Nat → Int32) (p1 : Int32) (p2 : Int32) : Option (Int32) :=
  if p1 = 0 then
    some (((1 : Int32) <<< (p2 &&& 31)))
  else
    if p1 = 1 then
      some ((((2 : Int32) <<< (p2 &&& 31)) - 1))
    else
      if p1 = 2 then
        nm (((p2 + 1) &&& (-(p2 + 1))) : Int32) fun x3_5 =>
        some (((((1 : Int32) <<< (x3_5 &&& 31)) - 1) <<< (((p2 + 1) - x3_5) &&& 31)))
      else
        ckI p2 8 <|
        some ((told p2.toNatClampNeg))
abbrev rm_Wi_rowOf : Room := { frames := 0, cells := 0, slots := 0, locals := 0 }
set_option maxHeartbeats 4000000 in
set_option maxRecDepth 100000 in
theorem c_Wi_rowOf (l : Launch) (dC : Nat → ClassId) (dI : Nat → Nat → Nat) (cI cJ : ClassId) (a_p0 a_told z_rows z_back z_spareBack z_left : Nat) (size : Int32) (kind : Int32) (told : Nat → Int32) (p1 : Int32) (p2 : Int32) (F : Nat) (u : Int32) (hf : f_Wi_rowOf F told p1 p2 = some u) : Met l y_Wi_rowOf (Cond.code y_Wi_rowOf prog_4_method_4_code 4 (some .int) :: T0) rm_Wi_rowOf (va_Pc [.ref a_p0, .int p1, .int p2] (Wr (dC, dI) [(a_p0, .inr (2, [.ref a_told, .ref z_rows, .ref z_back, .ref z_spareBack, .ref z_left, .int size, .int kind])), (a_told, .inl (cI, 8, .inl told))] [(cI, .int), (cJ, .long)])) (vp_Si (fun r => r = u)) 0 0 (fun _ => False) := by
  refine Met.ofW (cc := prog_4_method_4_code) (maxL := 4) (ret := (some .int)) (by decide) rfl ?_
  intro p e s m args below meth c s₁ B hml hv
  obtain ⟨rfl, hP, hK, hNW⟩ := hv
  have hx := B.exec
  have hb := B.bytes
  have hr := B.returns
  have hts := atoms_spec (ws := Cond.code y_Wi_rowOf prog_4_method_4_code 4 (some .int) :: T0) B.pre
  have ht0 : ∀ w ∈ T0, w.before ([.ref a_p0, .int p1, .int p2] : List Value).toArray s = true := fun w h => hts w (List.mem_cons_of_mem _ h)
  have hown : s.vm.findClass "FermionMaps$Wiring" = some m.cls := findClass_of_methodNamed B.named
  have hlocks := B.notSynchronized
  have hl := lv_entry ([.ref a_p0, .int p1, .int p2]) (n := 4) (Nat.le_of_ble_eq_true rfl)
  rw [lg_entry_eq]
  generalize (lg_sl ([.ref a_p0, .int p1, .int p2]) ++ List.replicate (4 - (lg_sl ([.ref a_p0, .int p1, .int p2])).length) Slot.unset).toArray = ls at hl ⊢
  have hl : lv_has ls 4 [(0, .ref a_p0), (1, .int p1), (2, .int p2)] := hl
  refine W.nameQ (fun Q hQ => ?_)
  rw [f_Wi_rowOf] at hf
  refine lv_iload_n hx hb d_Wi_rowOf_0 rfl (lv_at hl 1 rfl) ?_
  refine lv_if_ne (tgt := 8) hx hb d_Wi_rowOf_1 (by decide) (fun c_1 => ?_) (fun c_1 => ?_)
  · replace hf := if_f c_1 hf
    refine lv_iload_n hx hb d_Wi_rowOf_8 rfl (lv_at hl 1 rfl) ?_
    refine lv_iconst (v := 1) hx hb d_Wi_rowOf_9 (by decide) ?_
    refine lv_icmp_ne (tgt := 19) hx hb d_Wi_rowOf_10 (by decide) (fun c_2 => ?_) (fun c_2 => ?_)
    · replace hf := if_f c_2 hf
      refine lv_iload_n hx hb d_Wi_rowOf_19 rfl (lv_at hl 1 rfl) ?_
      refine lv_iconst (v := 2) hx hb d_Wi_rowOf_20 (by decide) ?_
      refine lv_icmp_ne (tgt := 45) hx hb d_Wi_rowOf_21 (by decide) (fun c_3 => ?_) (fun c_3 => ?_)
      · replace hf := if_f c_3 hf
        refine lv_aload_n hx hb d_Wi_rowOf_45 rfl (lv_at hl 0 rfl) ?_
        refine va_get (D := (dC, dI)) (ci := 2) (v := .ref a_told) (C := "FermionMaps$Wiring") (T := F_Wi) (N := 7) hx hb ht0 i_Wi hown hK hP 0 rfl rfl 0 (by decide) (ht0 _ m_53) (fun _ h9 => h9) rfl d_Wi_rowOf_46 ?_
        refine lv_iload_n hx hb d_Wi_rowOf_49 rfl (lv_at hl 2 rfl) ?_
        obtain ⟨hi_4, hf⟩ := ckI_ok hf
        refine va_iald hx hb hK hP 1 0 rfl rfl hi_4 d_Wi_rowOf_50 ?_
        have hu := Option.some.inj hf
        subst hu
        exact rt_i hQ rfl hx hb hr hlocks d_Wi_rowOf_51
      · replace hf := if_t c_3 hf
        refine lv_iload_n hx hb d_Wi_rowOf_24 rfl (lv_at hl 2 rfl) ?_
        refine lv_iconst (v := 1) hx hb d_Wi_rowOf_25 (by decide) ?_
        refine lv_iadd hx hb d_Wi_rowOf_26 ?_
        refine lv_iload_n hx hb d_Wi_rowOf_27 rfl (lv_at hl 2 rfl) ?_
        refine lv_iconst (v := 1) hx hb d_Wi_rowOf_28 (by decide) ?_
        refine lv_iadd hx hb d_Wi_rowOf_29 ?_
        refine lv_ineg hx hb d_Wi_rowOf_30 ?_
        refine lv_iand hx hb d_Wi_rowOf_31 ?_
        refine lv_topi (fun x3_5 e_x3_5 => ?_)
        replace hf := nm_eq e_x3_5 hf
        refine lv_istore_n (lv' := [(3, .int x3_5), (0, .ref a_p0), (1, .int p1), (2, .int p2)]) hx hb d_Wi_rowOf_32 rfl hl (by decide) rfl (fun ls hl => ?_)
        refine lv_iconst (v := 1) hx hb d_Wi_rowOf_33 (by decide) ?_
        refine lv_iload_n hx hb d_Wi_rowOf_34 rfl (lv_at hl 0 rfl) ?_
        refine lv_ishl hx hb d_Wi_rowOf_35 ?_
        refine lv_iconst (v := 1) hx hb d_Wi_rowOf_36 (by decide) ?_
        refine lv_isub hx hb d_Wi_rowOf_37 ?_
        refine lv_iload_n hx hb d_Wi_rowOf_38 rfl (lv_at hl 3 rfl) ?_
        refine lv_iconst (v := 1) hx hb d_Wi_rowOf_39 (by decide) ?_
        refine lv_iadd hx hb d_Wi_rowOf_40 ?_
        refine lv_iload_n hx hb d_Wi_rowOf_41 rfl (lv_at hl 0 rfl) ?_
        refine lv_isub hx hb d_Wi_rowOf_42 ?_
        refine lv_ishl hx hb d_Wi_rowOf_43 ?_
        have hu := Option.some.inj hf
        subst hu
        exact rt_i hQ rfl hx hb hr hlocks d_Wi_rowOf_44
    · replace hf := if_t c_2 hf
      refine lv_iconst (v := 2) hx hb d_Wi_rowOf_13 (by decide) ?_
      refine lv_iload_n hx hb d_Wi_rowOf_14 rfl (lv_at hl 2 rfl) ?_
      refine lv_ishl hx hb d_Wi_rowOf_15 ?_
      refine lv_iconst (v := 1) hx hb d_Wi_rowOf_16 (by decide) ?_
      refine lv_isub hx hb d_Wi_rowOf_17 ?_
      have hu := Option.some.inj hf
      subst hu
      exact rt_i hQ rfl hx hb hr hlocks d_Wi_rowOf_18
  · replace hf := if_t c_1 hf
    refine lv_iconst (v := 1) hx hb d_Wi_rowOf_4 (by decide) ?_
    refine lv_iload_n hx hb d_Wi_rowOf_5 rfl (lv_at hl 2 rfl) ?_
    refine lv_ishl hx hb d_Wi_rowOf_6 ?_
    have hu := Option.some.inj hf
    subst hu
    exact rt_i hQ rfl hx hb hr hlocks d_Wi_rowOf_7

/-! FermionMaps$Wiring.bringUp(I)Z -/
def b_Wi_bringUp_2 (F : Nat) (size : Int32) : Nat → Int32 → Int32 → (Nat → Int32) → (Nat → Int32) → Option (Int32 × (Nat → Int32) × (Nat → Int32))
  | 0, _, _, _, _ => none
  | n + 1, x1, x2, spareBack, left =>
    if size ≤ x2 then
      some (0, spareBack, left)
    else
      ckI x2 8 <|
      (f_FM_has F (left x2.toNatClampNeg) x1).bind fun u_3 =>
      if u_3 = 0 then
        nm (x2 + 1 : Int32) fun x2_5 =>
        b_Wi_bringUp_2 F size n x1 x2_5 spareBack left
      else
        ckI x1 8 <|
        nm ((left x1.toNatClampNeg) : Int32) fun x3_7 =>
        ckI x1 8 <|
        nm ((spareBack x1.toNatClampNeg) : Int32) fun x4_9 =>
        ckI x2 8 <|
        nm ((left x2.toNatClampNeg) : Int32) fun t_11 =>
        ckI x1 8 <|
        ckI x2 8 <|
        nm ((spareBack x2.toNatClampNeg) : Int32) fun t_14 =>
        ckI x1 8 <|
        ckI x2 8 <|
        ckI x2 8 <|
        some (1, (upd (upd spareBack x1.toNatClampNeg t_14) x2.toNatClampNeg x4_9), (upd (upd left x1.toNatClampNeg t_11) x2.toNatClampNeg x3_7))
def f_Wi_bringUp (F : Nat) (size : Int32) (spareBack : Nat → Int32) (left : Nat → Int32) (p1 : Int32) : Option (Int32 × (Nat → Int32) × (Nat → Int32)) :=
  b_Wi_bringUp_2 F size F p1 p1 spareBack left
abbrev rm_Wi_bringUp : Room := { frames := 1, cells := 0, slots := 0, locals := 21 }
set_option maxHeartbeats 4000000 in
set_option maxRecDepth 100000 in
theorem c_Wi_bringUp (l : Launch) (dC : Nat → ClassId) (dI : Nat → Nat → Nat) (cI cJ : ClassId) (a_p0 a_spareBack a_left z_told z_rows z_back : Nat) (sz : Nat) (size : Int32) (kind : Int32) (spareBack : Nat → Int32) (left : Nat → Int32) (p1 : Int32) (F : Nat) (u : Int32 × (Nat → Int32) × (Nat → Int32)) (hf : f_Wi_bringUp F size spareBack left p1 = some u) : Met l y_Wi_bringUp (Cond.code y_Wi_bringUp prog_4_method_6_code 5 (some .boolean) :: T0) rm_Wi_bringUp (va_Pc [.ref a_p0, .int p1] (Ww (dC, dI) [(a_p0, .inr (2, [.ref z_told, .ref z_rows, .ref z_back, .ref a_spareBack, .ref a_left, .int size, .int kind])), (a_spareBack, .inl (cI, 8, .inl spareBack)), (a_left, .inl (cI, 8, .inl left))] [(cI, .int), (cJ, .long)] sz)) (va_Qi (fun r (_ : Unit) => r = u.1) (Bw (dC, dI) [(cI, .int), (cJ, .long)] (va_A [(a_p0, .inr (2, [.ref z_told, .ref z_rows, .ref z_back, .ref a_spareBack, .ref a_left, .int size, .int kind])), (a_spareBack, .inl (cI, 8, .inl spareBack)), (a_left, .inl (cI, 8, .inl left))] sz) (fun w1 => w1 = [(a_p0, .inr (2, [.ref z_told, .ref z_rows, .ref z_back, .ref a_spareBack, .ref a_left, .int size, .int kind])), (a_spareBack, .inl (cI, 8, .inl u.2.1)), (a_left, .inl (cI, 8, .inl u.2.2))])) (va_A [(a_p0, .inr (2, [.ref z_told, .ref z_rows, .ref z_back, .ref a_spareBack, .ref a_left, .int size, .int kind])), (a_spareBack, .inl (cI, 8, .inl spareBack)), (a_left, .inl (cI, 8, .inl left))] sz)) 0 0 (va_A [(a_p0, .inr (2, [.ref z_told, .ref z_rows, .ref z_back, .ref a_spareBack, .ref a_left, .int size, .int kind])), (a_spareBack, .inl (cI, 8, .inl spareBack)), (a_left, .inl (cI, 8, .inl left))] sz) := by
  refine Met.ofW (cc := prog_4_method_6_code) (maxL := 5) (ret := (some .boolean)) (by decide) rfl ?_
  intro p e s m args below meth c s₁ B hml hv
  obtain ⟨rfl, hsz, hP, hK, hD0, hNW⟩ := hv
  have hx := B.exec
  have hb := B.bytes
  have hr := B.returns
  have hts := atoms_spec (ws := Cond.code y_Wi_bringUp prog_4_method_6_code 5 (some .boolean) :: T0) B.pre
  have ht0 : ∀ w ∈ T0, w.before ([.ref a_p0, .int p1] : List Value).toArray s = true := fun w h => hts w (List.mem_cons_of_mem _ h)
  have hown : s.vm.findClass "FermionMaps$Wiring" = some m.cls := findClass_of_methodNamed B.named
  have hlocks := B.notSynchronized
  subst hsz
  have hD := hD0.self (sz := s.heap.size)
  generalize hAe : va_A [(a_p0, .inr (2, [.ref z_told, .ref z_rows, .ref z_back, .ref a_spareBack, .ref a_left, .int size, .int kind])), (a_spareBack, .inl (cI, 8, .inl spareBack)), (a_left, .inl (cI, 8, .inl left))] s.heap.size = A at hD ⊢
  have hA : ∀ q : Nat, s.heap.size ≤ q → A q := fun q h => by rw [← hAe]; exact Or.inr h
  have hS : va_S A s.heap s.heap [] := va_S.rf
  have hl := lv_entry ([.ref a_p0, .int p1]) (n := 5) (Nat.le_of_ble_eq_true rfl)
  rw [lg_entry_eq]
  generalize (lg_sl ([.ref a_p0, .int p1]) ++ List.replicate (5 - (lg_sl ([.ref a_p0, .int p1])).length) Slot.unset).toArray = ls at hl ⊢
  have hl : lv_has ls 5 [(0, .ref a_p0), (1, .int p1)] := hl
  refine W.nameQ (fun Q hQ => ?_)
  have B_2 : ∀ (n : Nat), ∀ (x1 : Int32) (x2 : Int32) (spareBack : Nat → Int32) (left : Nat → Int32) (H : Heap) (locs : List Loc) (ls : Array Slot), b_Wi_bringUp_2 F size n x1 x2 spareBack left = some u → va_P (dC, dI) cls [(a_p0, .inr (2, [.ref z_told, .ref z_rows, .ref z_back, .ref a_spareBack, .ref a_left, .int size, .int kind])), (a_spareBack, .inl (cI, 8, .inl spareBack)), (a_left, .inl (cI, 8, .inl left))] H → va_D A [(a_p0, .inr (2, [.ref z_told, .ref z_rows, .ref z_back, .ref a_spareBack, .ref a_left, .int size, .int kind])), (a_spareBack, .inl (cI, 8, .inl spareBack)), (a_left, .inl (cI, 8, .inl left))] → va_S A s.heap H locs → lv_has ls 5 [(0, .ref a_p0), (1, .int x1), (2, .int x2)] → W p l e (headSpec (Cond.code y_Wi_bringUp prog_4_method_6_code 5 (some .boolean) :: T0) rm_Wi_bringUp).room s m ([.ref a_p0, .int p1] : List Value).toArray below meth c H locs 0 0 Q (F0 m 2 ls []) := by
    intro n
    induction n with
    | zero =>
      intro x1 x2 spareBack left H locs ls hf hP hD hS hl
      exact no_fuel hf
    | succ n ih =>
      intro x1 x2 spareBack left H locs ls hf hP hD hS hl
      rw [b_Wi_bringUp_2] at hf
      refine lv_iload_n hx hb d_Wi_bringUp_2 rfl (lv_at hl 2 rfl) ?_
      refine lv_aload_n hx hb d_Wi_bringUp_3 rfl (lv_at hl 0 rfl) ?_
      refine va_get (D := (dC, dI)) (ci := 2) (v := .int size) (C := "FermionMaps$Wiring") (T := F_Wi) (N := 7) hx hb ht0 i_Wi hown hK hP 0 rfl rfl 5 (by decide) (ht0 _ m_63) (fun _ h9 => h9) rfl d_Wi_bringUp_4 ?_
      refine lv_icmp_ge (tgt := 85) hx hb d_Wi_bringUp_7 (by decide) (fun c_1 => ?_) (fun c_1 => ?_)
      · replace hf := if_t c_1 hf
        refine lv_iconst (v := 0) hx hb d_Wi_bringUp_85 (by decide) ?_
        have hu := Option.some.inj hf
        subst hu
        exact rw_z hQ rfl rfl rfl hP hD hK hS hx hb hr hlocks d_Wi_bringUp_86
      · replace hf := if_f c_1 hf
        refine lv_aload_n hx hb d_Wi_bringUp_10 rfl (lv_at hl 0 rfl) ?_
        refine va_get (D := (dC, dI)) (ci := 2) (v := .ref a_left) (C := "FermionMaps$Wiring") (T := F_Wi) (N := 7) hx hb ht0 i_Wi hown hK hP 0 rfl rfl 4 (by decide) (ht0 _ m_62) (fun _ h9 => h9) rfl d_Wi_bringUp_11 ?_
        refine lv_iload_n hx hb d_Wi_bringUp_14 rfl (lv_at hl 2 rfl) ?_
        obtain ⟨hi_2, hf⟩ := ckI_ok hf
        refine va_iald hx hb hK hP 2 0 rfl rfl hi_2 d_Wi_bringUp_15 ?_
        refine lv_iload_n hx hb d_Wi_bringUp_16 rfl (lv_at hl 1 rfl) ?_
        obtain ⟨u_3, h_u_3, hf⟩ := bd hf
        refine rd_i (rdSN_run (As := [.int (left x2.toNatClampNeg), .int x1]) (rest := []) ⟨hx, hb, hml, hown, ht0⟩ (c_FM_has l dC dI cI cJ (left x2.toNatClampNeg) x1 F u_3 h_u_3) ⟨va_cnB (host := "FermionMaps") 2 ht0 (gC m_239) rfl rfl rfl (nw_Wi_45 hNW) (ht0 _ m_1) (by decide +kernel) ⟨Nat.le_of_ble_eq_true rfl, Nat.le_of_ble_eq_true rfl⟩, ht0 _ m_238, trivial⟩ hK hNW hP [] rfl  rfl hl.1 rfl (Nat.le_of_ble_eq_true rfl) d_Wi_bringUp_17 ⟨Nat.zero_le _, Nat.zero_le _⟩) ?_
        refine lv_if_eq (tgt := 79) hx hb d_Wi_bringUp_20 (by decide) (fun c_4 => ?_) (fun c_4 => ?_)
        · replace hf := if_t c_4 hf
          obtain ⟨x2_5, e_x2_5⟩ : ∃ y : Int32, y = x2 + 1 := ⟨_, rfl⟩
          replace hf := nm_eq e_x2_5 hf
          refine lv_iinc (v := x2_5) (lv' := [(2, .int x2_5), (0, .ref a_p0), (1, .int x1)]) hx hb d_Wi_bringUp_79 hl (k := 2) rfl (by rw [e_x2_5]; rfl) (by decide) rfl (fun ls hl => ?_)
          refine lv_goto (tgt := 2) hx hb d_Wi_bringUp_82 (by decide) ?_
          exact ih x1 x2_5 spareBack left H locs ls hf hP hD hS (lv_sub hl [1, 2, 0] rfl)
        · replace hf := if_f c_4 hf
          refine lv_aload_n hx hb d_Wi_bringUp_23 rfl (lv_at hl 0 rfl) ?_
          refine va_get (D := (dC, dI)) (ci := 2) (v := .ref a_left) (C := "FermionMaps$Wiring") (T := F_Wi) (N := 7) hx hb ht0 i_Wi hown hK hP 0 rfl rfl 4 (by decide) (ht0 _ m_62) (fun _ h9 => h9) rfl d_Wi_bringUp_24 ?_
          refine lv_iload_n hx hb d_Wi_bringUp_27 rfl (lv_at hl 1 rfl) ?_
          obtain ⟨hi_6, hf⟩ := ckI_ok hf
          refine va_iald hx hb hK hP 2 0 rfl rfl hi_6 d_Wi_bringUp_28 ?_
          refine lv_topi (fun x3_7 e_x3_7 => ?_)
          replace hf := nm_eq e_x3_7 hf
          refine lv_istore_n (lv' := [(3, .int x3_7), (0, .ref a_p0), (1, .int x1), (2, .int x2)]) hx hb d_Wi_bringUp_29 rfl hl (by decide) rfl (fun ls hl => ?_)
          refine lv_aload_n hx hb d_Wi_bringUp_30 rfl (lv_at hl 1 rfl) ?_
          refine va_get (D := (dC, dI)) (ci := 2) (v := .ref a_spareBack) (C := "FermionMaps$Wiring") (T := F_Wi) (N := 7) hx hb ht0 i_Wi hown hK hP 0 rfl rfl 3 (by decide) (ht0 _ m_61) (fun _ h9 => h9) rfl d_Wi_bringUp_31 ?_
          refine lv_iload_n hx hb d_Wi_bringUp_34 rfl (lv_at hl 2 rfl) ?_
          obtain ⟨hi_8, hf⟩ := ckI_ok hf
          refine va_iald hx hb hK hP 1 0 rfl rfl hi_8 d_Wi_bringUp_35 ?_
          refine lv_topi (fun x4_9 e_x4_9 => ?_)
          replace hf := nm_eq e_x4_9 hf
          refine lv_istore (lv' := [(4, .int x4_9), (3, .int x3_7), (0, .ref a_p0), (1, .int x1), (2, .int x2)]) hx hb d_Wi_bringUp_36 hl (by decide) rfl (fun ls hl => ?_)
          refine lv_aload_n hx hb d_Wi_bringUp_38 rfl (lv_at hl 2 rfl) ?_
          refine va_get (D := (dC, dI)) (ci := 2) (v := .ref a_left) (C := "FermionMaps$Wiring") (T := F_Wi) (N := 7) hx hb ht0 i_Wi hown hK hP 0 rfl rfl 4 (by decide) (ht0 _ m_62) (fun _ h9 => h9) rfl d_Wi_bringUp_39 ?_
          refine lv_iload_n hx hb d_Wi_bringUp_42 rfl (lv_at hl 3 rfl) ?_
          refine lv_aload_n hx hb d_Wi_bringUp_43 rfl (lv_at hl 2 rfl) ?_
          refine va_get (D := (dC, dI)) (ci := 2) (v := .ref a_left) (C := "FermionMaps$Wiring") (T := F_Wi) (N := 7) hx hb ht0 i_Wi hown hK hP 0 rfl rfl 4 (by decide) (ht0 _ m_62) (fun _ h9 => h9) rfl d_Wi_bringUp_44 ?_
          refine lv_iload_n hx hb d_Wi_bringUp_47 rfl (lv_at hl 4 rfl) ?_
          obtain ⟨hi_10, hf⟩ := ckI_ok hf
          refine va_iald hx hb hK hP 2 0 rfl rfl hi_10 d_Wi_bringUp_48 ?_
          refine lv_topi (fun t_11 e_t_11 => ?_)
          replace hf := nm_eq e_t_11 hf
          obtain ⟨hi_12, hf⟩ := ckI_ok hf
          refine va_iast hx hb hK hP hD hS 2 0 rfl rfl hi_12 d_Wi_bringUp_49 (fun H locs hP hD hS => ?_)
          have hP : va_P (dC, dI) cls [(a_p0, .inr (2, [.ref z_told, .ref z_rows, .ref z_back, .ref a_spareBack, .ref a_left, .int size, .int kind])), (a_spareBack, .inl (cI, 8, .inl spareBack)), (a_left, .inl (cI, 8, .inl (upd left x1.toNatClampNeg t_11)))] H := hP
          have hD : va_D A [(a_p0, .inr (2, [.ref z_told, .ref z_rows, .ref z_back, .ref a_spareBack, .ref a_left, .int size, .int kind])), (a_spareBack, .inl (cI, 8, .inl spareBack)), (a_left, .inl (cI, 8, .inl (upd left x1.toNatClampNeg t_11)))] := hD
          refine lv_aload_n hx hb d_Wi_bringUp_50 rfl (lv_at hl 2 rfl) ?_
          refine va_get (D := (dC, dI)) (ci := 2) (v := .ref a_spareBack) (C := "FermionMaps$Wiring") (T := F_Wi) (N := 7) hx hb ht0 i_Wi hown hK hP 0 rfl rfl 3 (by decide) (ht0 _ m_61) (fun _ h9 => h9) rfl d_Wi_bringUp_51 ?_
          refine lv_iload_n hx hb d_Wi_bringUp_54 rfl (lv_at hl 3 rfl) ?_
          refine lv_aload_n hx hb d_Wi_bringUp_55 rfl (lv_at hl 2 rfl) ?_
          refine va_get (D := (dC, dI)) (ci := 2) (v := .ref a_spareBack) (C := "FermionMaps$Wiring") (T := F_Wi) (N := 7) hx hb ht0 i_Wi hown hK hP 0 rfl rfl 3 (by decide) (ht0 _ m_61) (fun _ h9 => h9) rfl d_Wi_bringUp_56 ?_
          refine lv_iload_n hx hb d_Wi_bringUp_59 rfl (lv_at hl 4 rfl) ?_
          obtain ⟨hi_13, hf⟩ := ckI_ok hf
          refine va_iald hx hb hK hP 1 0 rfl rfl hi_13 d_Wi_bringUp_60 ?_
          refine lv_topi (fun t_14 e_t_14 => ?_)
          replace hf := nm_eq e_t_14 hf
          obtain ⟨hi_15, hf⟩ := ckI_ok hf
          refine va_iast hx hb hK hP hD hS 1 0 rfl rfl hi_15 d_Wi_bringUp_61 (fun H locs hP hD hS => ?_)
          have hP : va_P (dC, dI) cls [(a_p0, .inr (2, [.ref z_told, .ref z_rows, .ref z_back, .ref a_spareBack, .ref a_left, .int size, .int kind])), (a_spareBack, .inl (cI, 8, .inl (upd spareBack x1.toNatClampNeg t_14))), (a_left, .inl (cI, 8, .inl (upd left x1.toNatClampNeg t_11)))] H := hP
          have hD : va_D A [(a_p0, .inr (2, [.ref z_told, .ref z_rows, .ref z_back, .ref a_spareBack, .ref a_left, .int size, .int kind])), (a_spareBack, .inl (cI, 8, .inl (upd spareBack x1.toNatClampNeg t_14))), (a_left, .inl (cI, 8, .inl (upd left x1.toNatClampNeg t_11)))] := hD
          refine lv_aload_n hx hb d_Wi_bringUp_62 rfl (lv_at hl 2 rfl) ?_
          refine va_get (D := (dC, dI)) (ci := 2) (v := .ref a_left) (C := "FermionMaps$Wiring") (T := F_Wi) (N := 7) hx hb ht0 i_Wi hown hK hP 0 rfl rfl 4 (by decide) (ht0 _ m_62) (fun _ h9 => h9) rfl d_Wi_bringUp_63 ?_
          refine lv_iload_n hx hb d_Wi_bringUp_66 rfl (lv_at hl 4 rfl) ?_
          refine lv_iload_n hx hb d_Wi_bringUp_67 rfl (lv_at hl 1 rfl) ?_
          obtain ⟨hi_16, hf⟩ := ckI_ok hf
          refine va_iast hx hb hK hP hD hS 2 0 rfl rfl hi_16 d_Wi_bringUp_68 (fun H locs hP hD hS => ?_)
          have hP : va_P (dC, dI) cls [(a_p0, .inr (2, [.ref z_told, .ref z_rows, .ref z_back, .ref a_spareBack, .ref a_left, .int size, .int kind])), (a_spareBack, .inl (cI, 8, .inl (upd spareBack x1.toNatClampNeg t_14))), (a_left, .inl (cI, 8, .inl (upd (upd left x1.toNatClampNeg t_11) x2.toNatClampNeg x3_7)))] H := hP
          have hD : va_D A [(a_p0, .inr (2, [.ref z_told, .ref z_rows, .ref z_back, .ref a_spareBack, .ref a_left, .int size, .int kind])), (a_spareBack, .inl (cI, 8, .inl (upd spareBack x1.toNatClampNeg t_14))), (a_left, .inl (cI, 8, .inl (upd (upd left x1.toNatClampNeg t_11) x2.toNatClampNeg x3_7)))] := hD
          refine lv_aload_n hx hb d_Wi_bringUp_69 rfl (lv_at hl 2 rfl) ?_
          refine va_get (D := (dC, dI)) (ci := 2) (v := .ref a_spareBack) (C := "FermionMaps$Wiring") (T := F_Wi) (N := 7) hx hb ht0 i_Wi hown hK hP 0 rfl rfl 3 (by decide) (ht0 _ m_61) (fun _ h9 => h9) rfl d_Wi_bringUp_70 ?_
          refine lv_iload_n hx hb d_Wi_bringUp_73 rfl (lv_at hl 4 rfl) ?_
          refine lv_iload hx hb d_Wi_bringUp_74 (lv_at hl 0 rfl) ?_
          obtain ⟨hi_17, hf⟩ := ckI_ok hf
          refine va_iast hx hb hK hP hD hS 1 0 rfl rfl hi_17 d_Wi_bringUp_76 (fun H locs hP hD hS => ?_)
          have hP : va_P (dC, dI) cls [(a_p0, .inr (2, [.ref z_told, .ref z_rows, .ref z_back, .ref a_spareBack, .ref a_left, .int size, .int kind])), (a_spareBack, .inl (cI, 8, .inl (upd (upd spareBack x1.toNatClampNeg t_14) x2.toNatClampNeg x4_9))), (a_left, .inl (cI, 8, .inl (upd (upd left x1.toNatClampNeg t_11) x2.toNatClampNeg x3_7)))] H := hP
          have hD : va_D A [(a_p0, .inr (2, [.ref z_told, .ref z_rows, .ref z_back, .ref a_spareBack, .ref a_left, .int size, .int kind])), (a_spareBack, .inl (cI, 8, .inl (upd (upd spareBack x1.toNatClampNeg t_14) x2.toNatClampNeg x4_9))), (a_left, .inl (cI, 8, .inl (upd (upd left x1.toNatClampNeg t_11) x2.toNatClampNeg x3_7)))] := hD
          refine lv_iconst (v := 1) hx hb d_Wi_bringUp_77 (by decide) ?_
          have hu := Option.some.inj hf
          subst hu
          exact rw_z hQ rfl rfl rfl hP hD hK hS hx hb hr hlocks d_Wi_bringUp_78
  rw [f_Wi_bringUp] at hf
  refine lv_iload_n hx hb d_Wi_bringUp_0 rfl (lv_at hl 1 rfl) ?_
  refine lv_istore_n (lv' := [(2, .int p1), (0, .ref a_p0), (1, .int p1)]) hx hb d_Wi_bringUp_1 rfl hl (by decide) rfl (fun ls hl => ?_)
  exact B_2 F p1 p1 spareBack left s.heap [] ls hf hP hD hS (lv_sub hl [1, 2, 0] rfl)

/-! FermionMaps$Wiring.turnRound(I)Z -/
def b_Wi_turnRound_115 (F : Nat) (k_39 : Int32 → (Nat → Int32) → (Nat → Int32) → Option (Int32 × (Nat → Int32) × (Nat → Int32))) (k_59 : Int32 → Int32 → (Nat → Int32) → (Nat → Int32) → Option (Int32 × (Nat → Int32) × (Nat → Int32))) (size : Int32) (told : Nat → Int32) (x2 : Int32) (x3 : Int32) (spareBack : Nat → Int32) (left : Nat → Int32) : Option (Int32 × (Nat → Int32) × (Nat → Int32)) :=
  nm (x3 + 1 : Int32) fun x3_8 =>
  k_59 x2 x3_8 spareBack left
def b_Wi_turnRound_59 (F : Nat) (k_39 : Int32 → (Nat → Int32) → (Nat → Int32) → Option (Int32 × (Nat → Int32) × (Nat → Int32))) (size : Int32) (told : Nat → Int32) : Nat → Int32 → Int32 → (Nat → Int32) → (Nat → Int32) → Option (Int32 × (Nat → Int32) × (Nat → Int32))
  | 0, _, _, _, _ => none
  | n + 1, x2, x3, spareBack, left =>
    if size ≤ x3 then
      nm (x2 + 1 : Int32) fun x2_6 =>
      k_39 x2_6 spareBack left
    else
      if x3 = x2 then
        b_Wi_turnRound_115 F k_39 (b_Wi_turnRound_59 F k_39 size told n) size told x2 x3 spareBack left
      else
        ckI x3 8 <|
        (f_FM_has F (left x3.toNatClampNeg) x2).bind fun u_10 =>
        if u_10 = 0 then
          b_Wi_turnRound_115 F k_39 (b_Wi_turnRound_59 F k_39 size told n) size told x2 x3 spareBack left
        else
          ckI x3 8 <|
          ckI x2 8 <|
          nm (((left x3.toNatClampNeg) ^^^ (left x2.toNatClampNeg)) : Int32) fun t_14 =>
          ckI x3 8 <|
          ckI x3 8 <|
          ckI x2 8 <|
          nm (((spareBack x3.toNatClampNeg) ^^^ (spareBack x2.toNatClampNeg)) : Int32) fun t_18 =>
          ckI x3 8 <|
          b_Wi_turnRound_115 F k_39 (b_Wi_turnRound_59 F k_39 size told n) size told x2 x3 (upd spareBack x3.toNatClampNeg t_18) (upd left x3.toNatClampNeg t_14)
def b_Wi_turnRound_39 (F : Nat) (size : Int32) (told : Nat → Int32) : Nat → Int32 → (Nat → Int32) → (Nat → Int32) → Option (Int32 × (Nat → Int32) × (Nat → Int32))
  | 0, _, _, _ => none
  | n + 1, x2, spareBack, left =>
    if size ≤ x2 then
      some (1, spareBack, left)
    else
      (f_Wi_bringUp F size spareBack left x2).bind fun u_3 =>
      if u_3.1 = 0 then
        some (0, u_3.2.1, u_3.2.2)
      else
        b_Wi_turnRound_59 F (b_Wi_turnRound_39 F size told n) size told F x2 0 u_3.2.1 u_3.2.2
def b_Wi_turnRound_2 (F : Nat) (size : Int32) (told : Nat → Int32) : Nat → Int32 → Int32 → (Nat → Int32) → (Nat → Int32) → Option (Int32 × (Nat → Int32) × (Nat → Int32))
  | 0, _, _, _, _ => none
  | n + 1, x1, x2, spareBack, left =>
    if size ≤ x2 then
      b_Wi_turnRound_39 F size told F 0 spareBack left
    else
      (f_Wi_rowOf F told x1 x2).bind fun u_20 =>
      ckI x2 8 <|
      nm (((1 : Int32) <<< (x2 &&& 31)) : Int32) fun t_22 =>
      ckI x2 8 <|
      nm (x2 + 1 : Int32) fun x2_24 =>
      b_Wi_turnRound_2 F size told n x1 x2_24 (upd spareBack x2.toNatClampNeg t_22) (upd left x2.toNatClampNeg u_20)
def f_Wi_turnRound (F : Nat) (size : Int32) (told : Nat → Int32) (spareBack : Nat → Int32) (left : Nat → Int32) (p1 : Int32) : Option (Int32 × (Nat → Int32) × (Nat → Int32)) :=
  b_Wi_turnRound_2 F size told F p1 0 spareBack left
abbrev rm_Wi_turnRound : Room := { frames := 2, cells := 0, slots := 0, locals := 45 }
set_option maxHeartbeats 4000000 in
set_option maxRecDepth 100000 in
theorem c_Wi_turnRound (l : Launch) (dC : Nat → ClassId) (dI : Nat → Nat → Nat) (cI cJ : ClassId) (a_p0 a_told a_spareBack a_left z_rows z_back : Nat) (sz : Nat) (size : Int32) (kind : Int32) (told : Nat → Int32) (spareBack : Nat → Int32) (left : Nat → Int32) (p1 : Int32) (F : Nat) (u : Int32 × (Nat → Int32) × (Nat → Int32)) (hf : f_Wi_turnRound F size told spareBack left p1 = some u) : Met l y_Wi_turnRound (Cond.code y_Wi_turnRound prog_4_method_5_code 4 (some .boolean) :: T0) rm_Wi_turnRound (va_Pc [.ref a_p0, .int p1] (Ww (dC, dI) [(a_p0, .inr (2, [.ref a_told, .ref z_rows, .ref z_back, .ref a_spareBack, .ref a_left, .int size, .int kind])), (a_told, .inl (cI, 8, .inl told)), (a_spareBack, .inl (cI, 8, .inl spareBack)), (a_left, .inl (cI, 8, .inl left))] [(cI, .int), (cJ, .long)] sz)) (va_Qi (fun r (_ : Unit) => r = u.1) (Bw (dC, dI) [(cI, .int), (cJ, .long)] (va_A [(a_p0, .inr (2, [.ref a_told, .ref z_rows, .ref z_back, .ref a_spareBack, .ref a_left, .int size, .int kind])), (a_told, .inl (cI, 8, .inl told)), (a_spareBack, .inl (cI, 8, .inl spareBack)), (a_left, .inl (cI, 8, .inl left))] sz) (fun w1 => w1 = [(a_p0, .inr (2, [.ref a_told, .ref z_rows, .ref z_back, .ref a_spareBack, .ref a_left, .int size, .int kind])), (a_told, .inl (cI, 8, .inl told)), (a_spareBack, .inl (cI, 8, .inl u.2.1)), (a_left, .inl (cI, 8, .inl u.2.2))])) (va_A [(a_p0, .inr (2, [.ref a_told, .ref z_rows, .ref z_back, .ref a_spareBack, .ref a_left, .int size, .int kind])), (a_told, .inl (cI, 8, .inl told)), (a_spareBack, .inl (cI, 8, .inl spareBack)), (a_left, .inl (cI, 8, .inl left))] sz)) 0 0 (va_A [(a_p0, .inr (2, [.ref a_told, .ref z_rows, .ref z_back, .ref a_spareBack, .ref a_left, .int size, .int kind])), (a_told, .inl (cI, 8, .inl told)), (a_spareBack, .inl (cI, 8, .inl spareBack)), (a_left, .inl (cI, 8, .inl left))] sz) := by
  refine Met.ofW (cc := prog_4_method_5_code) (maxL := 4) (ret := (some .boolean)) (by decide) rfl ?_
  intro p e s m args below meth c s₁ B hml hv
  obtain ⟨rfl, hsz, hP, hK, hD0, hNW⟩ := hv
  have hx := B.exec
  have hb := B.bytes
  have hr := B.returns
  have hts := atoms_spec (ws := Cond.code y_Wi_turnRound prog_4_method_5_code 4 (some .boolean) :: T0) B.pre
  have ht0 : ∀ w ∈ T0, w.before ([.ref a_p0, .int p1] : List Value).toArray s = true := fun w h => hts w (List.mem_cons_of_mem _ h)
  have hown : s.vm.findClass "FermionMaps$Wiring" = some m.cls := findClass_of_methodNamed B.named
  have hlocks := B.notSynchronized
  subst hsz
  have hD := hD0.self (sz := s.heap.size)
  generalize hAe : va_A [(a_p0, .inr (2, [.ref a_told, .ref z_rows, .ref z_back, .ref a_spareBack, .ref a_left, .int size, .int kind])), (a_told, .inl (cI, 8, .inl told)), (a_spareBack, .inl (cI, 8, .inl spareBack)), (a_left, .inl (cI, 8, .inl left))] s.heap.size = A at hD ⊢
  have hA : ∀ q : Nat, s.heap.size ≤ q → A q := fun q h => by rw [← hAe]; exact Or.inr h
  have hS : va_S A s.heap s.heap [] := va_S.rf
  have hl := lv_entry ([.ref a_p0, .int p1]) (n := 4) (Nat.le_of_ble_eq_true rfl)
  rw [lg_entry_eq]
  generalize (lg_sl ([.ref a_p0, .int p1]) ++ List.replicate (4 - (lg_sl ([.ref a_p0, .int p1])).length) Slot.unset).toArray = ls at hl ⊢
  have hl : lv_has ls 4 [(0, .ref a_p0), (1, .int p1)] := hl
  refine W.nameQ (fun Q hQ => ?_)
  have B_115 : ∀ (k_39 : Int32 → (Nat → Int32) → (Nat → Int32) → Option (Int32 × (Nat → Int32) × (Nat → Int32))) (hk_39 : ∀ (x2 : Int32) (spareBack : Nat → Int32) (left : Nat → Int32) (H : Heap) (locs : List Loc) (ls : Array Slot), k_39 x2 spareBack left = some u → va_P (dC, dI) cls [(a_p0, .inr (2, [.ref a_told, .ref z_rows, .ref z_back, .ref a_spareBack, .ref a_left, .int size, .int kind])), (a_told, .inl (cI, 8, .inl told)), (a_spareBack, .inl (cI, 8, .inl spareBack)), (a_left, .inl (cI, 8, .inl left))] H → va_D A [(a_p0, .inr (2, [.ref a_told, .ref z_rows, .ref z_back, .ref a_spareBack, .ref a_left, .int size, .int kind])), (a_told, .inl (cI, 8, .inl told)), (a_spareBack, .inl (cI, 8, .inl spareBack)), (a_left, .inl (cI, 8, .inl left))] → va_S A s.heap H locs → lv_has ls 4 [(0, .ref a_p0), (2, .int x2)] → W p l e (headSpec (Cond.code y_Wi_turnRound prog_4_method_5_code 4 (some .boolean) :: T0) rm_Wi_turnRound).room s m ([.ref a_p0, .int p1] : List Value).toArray below meth c H locs 0 0 Q (F0 m 39 ls [])) (k_59 : Int32 → Int32 → (Nat → Int32) → (Nat → Int32) → Option (Int32 × (Nat → Int32) × (Nat → Int32))) (hk_59 : ∀ (x2 : Int32) (x3 : Int32) (spareBack : Nat → Int32) (left : Nat → Int32) (H : Heap) (locs : List Loc) (ls : Array Slot), k_59 x2 x3 spareBack left = some u → va_P (dC, dI) cls [(a_p0, .inr (2, [.ref a_told, .ref z_rows, .ref z_back, .ref a_spareBack, .ref a_left, .int size, .int kind])), (a_told, .inl (cI, 8, .inl told)), (a_spareBack, .inl (cI, 8, .inl spareBack)), (a_left, .inl (cI, 8, .inl left))] H → va_D A [(a_p0, .inr (2, [.ref a_told, .ref z_rows, .ref z_back, .ref a_spareBack, .ref a_left, .int size, .int kind])), (a_told, .inl (cI, 8, .inl told)), (a_spareBack, .inl (cI, 8, .inl spareBack)), (a_left, .inl (cI, 8, .inl left))] → va_S A s.heap H locs → lv_has ls 4 [(0, .ref a_p0), (2, .int x2), (3, .int x3)] → W p l e (headSpec (Cond.code y_Wi_turnRound prog_4_method_5_code 4 (some .boolean) :: T0) rm_Wi_turnRound).room s m ([.ref a_p0, .int p1] : List Value).toArray below meth c H locs 0 0 Q (F0 m 59 ls [])), ∀ (x2 : Int32) (x3 : Int32) (spareBack : Nat → Int32) (left : Nat → Int32) (H : Heap) (locs : List Loc) (ls : Array Slot), b_Wi_turnRound_115 F k_39 k_59 size told x2 x3 spareBack left = some u → va_P (dC, dI) cls [(a_p0, .inr (2, [.ref a_told, .ref z_rows, .ref z_back, .ref a_spareBack, .ref a_left, .int size, .int kind])), (a_told, .inl (cI, 8, .inl told)), (a_spareBack, .inl (cI, 8, .inl spareBack)), (a_left, .inl (cI, 8, .inl left))] H → va_D A [(a_p0, .inr (2, [.ref a_told, .ref z_rows, .ref z_back, .ref a_spareBack, .ref a_left, .int size, .int kind])), (a_told, .inl (cI, 8, .inl told)), (a_spareBack, .inl (cI, 8, .inl spareBack)), (a_left, .inl (cI, 8, .inl left))] → va_S A s.heap H locs → lv_has ls 4 [(0, .ref a_p0), (2, .int x2), (3, .int x3)] → W p l e (headSpec (Cond.code y_Wi_turnRound prog_4_method_5_code 4 (some .boolean) :: T0) rm_Wi_turnRound).room s m ([.ref a_p0, .int p1] : List Value).toArray below meth c H locs 0 0 Q (F0 m 115 ls []) := by
    intro k_39 hk_39 k_59 hk_59
    intro x2 x3 spareBack left H locs ls hf hP hD hS hl
    rw [b_Wi_turnRound_115] at hf
    obtain ⟨x3_8, e_x3_8⟩ : ∃ y : Int32, y = x3 + 1 := ⟨_, rfl⟩
    replace hf := nm_eq e_x3_8 hf
    refine lv_iinc (v := x3_8) (lv' := [(3, .int x3_8), (0, .ref a_p0), (2, .int x2)]) hx hb d_Wi_turnRound_115 hl (k := 2) rfl (by rw [e_x3_8]; rfl) (by decide) rfl (fun ls hl => ?_)
    refine lv_goto (tgt := 59) hx hb d_Wi_turnRound_118 (by decide) ?_
    exact hk_59 x2 x3_8 spareBack left H locs ls hf hP hD hS (lv_sub hl [1, 2, 0] rfl)
  have B_59 : ∀ (k_39 : Int32 → (Nat → Int32) → (Nat → Int32) → Option (Int32 × (Nat → Int32) × (Nat → Int32))) (hk_39 : ∀ (x2 : Int32) (spareBack : Nat → Int32) (left : Nat → Int32) (H : Heap) (locs : List Loc) (ls : Array Slot), k_39 x2 spareBack left = some u → va_P (dC, dI) cls [(a_p0, .inr (2, [.ref a_told, .ref z_rows, .ref z_back, .ref a_spareBack, .ref a_left, .int size, .int kind])), (a_told, .inl (cI, 8, .inl told)), (a_spareBack, .inl (cI, 8, .inl spareBack)), (a_left, .inl (cI, 8, .inl left))] H → va_D A [(a_p0, .inr (2, [.ref a_told, .ref z_rows, .ref z_back, .ref a_spareBack, .ref a_left, .int size, .int kind])), (a_told, .inl (cI, 8, .inl told)), (a_spareBack, .inl (cI, 8, .inl spareBack)), (a_left, .inl (cI, 8, .inl left))] → va_S A s.heap H locs → lv_has ls 4 [(0, .ref a_p0), (2, .int x2)] → W p l e (headSpec (Cond.code y_Wi_turnRound prog_4_method_5_code 4 (some .boolean) :: T0) rm_Wi_turnRound).room s m ([.ref a_p0, .int p1] : List Value).toArray below meth c H locs 0 0 Q (F0 m 39 ls [])), ∀ (n : Nat), ∀ (x2 : Int32) (x3 : Int32) (spareBack : Nat → Int32) (left : Nat → Int32) (H : Heap) (locs : List Loc) (ls : Array Slot), b_Wi_turnRound_59 F k_39 size told n x2 x3 spareBack left = some u → va_P (dC, dI) cls [(a_p0, .inr (2, [.ref a_told, .ref z_rows, .ref z_back, .ref a_spareBack, .ref a_left, .int size, .int kind])), (a_told, .inl (cI, 8, .inl told)), (a_spareBack, .inl (cI, 8, .inl spareBack)), (a_left, .inl (cI, 8, .inl left))] H → va_D A [(a_p0, .inr (2, [.ref a_told, .ref z_rows, .ref z_back, .ref a_spareBack, .ref a_left, .int size, .int kind])), (a_told, .inl (cI, 8, .inl told)), (a_spareBack, .inl (cI, 8, .inl spareBack)), (a_left, .inl (cI, 8, .inl left))] → va_S A s.heap H locs → lv_has ls 4 [(0, .ref a_p0), (2, .int x2), (3, .int x3)] → W p l e (headSpec (Cond.code y_Wi_turnRound prog_4_method_5_code 4 (some .boolean) :: T0) rm_Wi_turnRound).room s m ([.ref a_p0, .int p1] : List Value).toArray below meth c H locs 0 0 Q (F0 m 59 ls []) := by
    intro k_39 hk_39
    intro n
    induction n with
    | zero =>
      intro x2 x3 spareBack left H locs ls hf hP hD hS hl
      exact no_fuel hf
    | succ n ih =>
      intro x2 x3 spareBack left H locs ls hf hP hD hS hl
      rw [b_Wi_turnRound_59] at hf
      refine lv_iload_n hx hb d_Wi_turnRound_59 rfl (lv_at hl 2 rfl) ?_
      refine lv_aload_n hx hb d_Wi_turnRound_60 rfl (lv_at hl 0 rfl) ?_
      refine va_get (D := (dC, dI)) (ci := 2) (v := .int size) (C := "FermionMaps$Wiring") (T := F_Wi) (N := 7) hx hb ht0 i_Wi hown hK hP 0 rfl rfl 5 (by decide) (ht0 _ m_63) (fun _ h9 => h9) rfl d_Wi_turnRound_61 ?_
      refine lv_icmp_ge (tgt := 121) hx hb d_Wi_turnRound_64 (by decide) (fun c_5 => ?_) (fun c_5 => ?_)
      · replace hf := if_t c_5 hf
        obtain ⟨x2_6, e_x2_6⟩ : ∃ y : Int32, y = x2 + 1 := ⟨_, rfl⟩
        replace hf := nm_eq e_x2_6 hf
        refine lv_iinc (v := x2_6) (lv' := [(2, .int x2_6), (0, .ref a_p0), (3, .int x3)]) hx hb d_Wi_turnRound_121 hl (k := 1) rfl (by rw [e_x2_6]; rfl) (by decide) rfl (fun ls hl => ?_)
        refine lv_goto (tgt := 39) hx hb d_Wi_turnRound_124 (by decide) ?_
        exact hk_39 x2_6 spareBack left H locs ls hf hP hD hS (lv_sub hl [1, 0] rfl)
      · replace hf := if_f c_5 hf
        refine lv_iload_n hx hb d_Wi_turnRound_67 rfl (lv_at hl 2 rfl) ?_
        refine lv_iload_n hx hb d_Wi_turnRound_68 rfl (lv_at hl 1 rfl) ?_
        refine lv_icmp_eq (tgt := 115) hx hb d_Wi_turnRound_69 (by decide) (fun c_7 => ?_) (fun c_7 => ?_)
        · replace hf := if_t c_7 hf
          exact B_115 k_39 hk_39 (b_Wi_turnRound_59 F k_39 size told n) ih x2 x3 spareBack left H locs ls hf hP hD hS (lv_sub hl [0, 1, 2] rfl)
        · replace hf := if_f c_7 hf
          refine lv_aload_n hx hb d_Wi_turnRound_72 rfl (lv_at hl 0 rfl) ?_
          refine va_get (D := (dC, dI)) (ci := 2) (v := .ref a_left) (C := "FermionMaps$Wiring") (T := F_Wi) (N := 7) hx hb ht0 i_Wi hown hK hP 0 rfl rfl 4 (by decide) (ht0 _ m_62) (fun _ h9 => h9) rfl d_Wi_turnRound_73 ?_
          refine lv_iload_n hx hb d_Wi_turnRound_76 rfl (lv_at hl 2 rfl) ?_
          obtain ⟨hi_9, hf⟩ := ckI_ok hf
          refine va_iald hx hb hK hP 3 0 rfl rfl hi_9 d_Wi_turnRound_77 ?_
          refine lv_iload_n hx hb d_Wi_turnRound_78 rfl (lv_at hl 1 rfl) ?_
          obtain ⟨u_10, h_u_10, hf⟩ := bd hf
          refine rd_i (rdSN_run (As := [.int (left x3.toNatClampNeg), .int x2]) (rest := []) ⟨hx, hb, hml, hown, ht0⟩ (c_FM_has l dC dI cI cJ (left x3.toNatClampNeg) x2 F u_10 h_u_10) ⟨va_cnB (host := "FermionMaps") 2 ht0 (gC m_239) rfl rfl rfl (nw_Wi_45 hNW) (ht0 _ m_1) (by decide +kernel) ⟨Nat.le_of_ble_eq_true rfl, Nat.le_of_ble_eq_true rfl⟩, ht0 _ m_238, trivial⟩ hK hNW hP [] rfl  rfl hl.1 rfl (Nat.le_of_ble_eq_true rfl) d_Wi_turnRound_79 ⟨Nat.zero_le _, Nat.zero_le _⟩) ?_
          refine lv_if_eq (tgt := 115) hx hb d_Wi_turnRound_82 (by decide) (fun c_11 => ?_) (fun c_11 => ?_)
          · replace hf := if_t c_11 hf
            exact B_115 k_39 hk_39 (b_Wi_turnRound_59 F k_39 size told n) ih x2 x3 spareBack left H locs ls hf hP hD hS (lv_sub hl [0, 1, 2] rfl)
          · replace hf := if_f c_11 hf
            refine lv_aload_n hx hb d_Wi_turnRound_85 rfl (lv_at hl 0 rfl) ?_
            refine va_get (D := (dC, dI)) (ci := 2) (v := .ref a_left) (C := "FermionMaps$Wiring") (T := F_Wi) (N := 7) hx hb ht0 i_Wi hown hK hP 0 rfl rfl 4 (by decide) (ht0 _ m_62) (fun _ h9 => h9) rfl d_Wi_turnRound_86 ?_
            refine lv_iload_n hx hb d_Wi_turnRound_89 rfl (lv_at hl 2 rfl) ?_
            refine lv_dup2_11 hx hb d_Wi_turnRound_90 rfl rfl ?_
            obtain ⟨hi_12, hf⟩ := ckI_ok hf
            refine va_iald hx hb hK hP 3 0 rfl rfl hi_12 d_Wi_turnRound_91 ?_
            refine lv_aload_n hx hb d_Wi_turnRound_92 rfl (lv_at hl 0 rfl) ?_
            refine va_get (D := (dC, dI)) (ci := 2) (v := .ref a_left) (C := "FermionMaps$Wiring") (T := F_Wi) (N := 7) hx hb ht0 i_Wi hown hK hP 0 rfl rfl 4 (by decide) (ht0 _ m_62) (fun _ h9 => h9) rfl d_Wi_turnRound_93 ?_
            refine lv_iload_n hx hb d_Wi_turnRound_96 rfl (lv_at hl 1 rfl) ?_
            obtain ⟨hi_13, hf⟩ := ckI_ok hf
            refine va_iald hx hb hK hP 3 0 rfl rfl hi_13 d_Wi_turnRound_97 ?_
            refine lv_ixor hx hb d_Wi_turnRound_98 ?_
            refine lv_topi (fun t_14 e_t_14 => ?_)
            replace hf := nm_eq e_t_14 hf
            obtain ⟨hi_15, hf⟩ := ckI_ok hf
            refine va_iast hx hb hK hP hD hS 3 0 rfl rfl hi_15 d_Wi_turnRound_99 (fun H locs hP hD hS => ?_)
            have hP : va_P (dC, dI) cls [(a_p0, .inr (2, [.ref a_told, .ref z_rows, .ref z_back, .ref a_spareBack, .ref a_left, .int size, .int kind])), (a_told, .inl (cI, 8, .inl told)), (a_spareBack, .inl (cI, 8, .inl spareBack)), (a_left, .inl (cI, 8, .inl (upd left x3.toNatClampNeg t_14)))] H := hP
            have hD : va_D A [(a_p0, .inr (2, [.ref a_told, .ref z_rows, .ref z_back, .ref a_spareBack, .ref a_left, .int size, .int kind])), (a_told, .inl (cI, 8, .inl told)), (a_spareBack, .inl (cI, 8, .inl spareBack)), (a_left, .inl (cI, 8, .inl (upd left x3.toNatClampNeg t_14)))] := hD
            refine lv_aload_n hx hb d_Wi_turnRound_100 rfl (lv_at hl 0 rfl) ?_
            refine va_get (D := (dC, dI)) (ci := 2) (v := .ref a_spareBack) (C := "FermionMaps$Wiring") (T := F_Wi) (N := 7) hx hb ht0 i_Wi hown hK hP 0 rfl rfl 3 (by decide) (ht0 _ m_61) (fun _ h9 => h9) rfl d_Wi_turnRound_101 ?_
            refine lv_iload_n hx hb d_Wi_turnRound_104 rfl (lv_at hl 2 rfl) ?_
            refine lv_dup2_11 hx hb d_Wi_turnRound_105 rfl rfl ?_
            obtain ⟨hi_16, hf⟩ := ckI_ok hf
            refine va_iald hx hb hK hP 2 0 rfl rfl hi_16 d_Wi_turnRound_106 ?_
            refine lv_aload_n hx hb d_Wi_turnRound_107 rfl (lv_at hl 0 rfl) ?_
            refine va_get (D := (dC, dI)) (ci := 2) (v := .ref a_spareBack) (C := "FermionMaps$Wiring") (T := F_Wi) (N := 7) hx hb ht0 i_Wi hown hK hP 0 rfl rfl 3 (by decide) (ht0 _ m_61) (fun _ h9 => h9) rfl d_Wi_turnRound_108 ?_
            refine lv_iload_n hx hb d_Wi_turnRound_111 rfl (lv_at hl 1 rfl) ?_
            obtain ⟨hi_17, hf⟩ := ckI_ok hf
            refine va_iald hx hb hK hP 2 0 rfl rfl hi_17 d_Wi_turnRound_112 ?_
            refine lv_ixor hx hb d_Wi_turnRound_113 ?_
            refine lv_topi (fun t_18 e_t_18 => ?_)
            replace hf := nm_eq e_t_18 hf
            obtain ⟨hi_19, hf⟩ := ckI_ok hf
            refine va_iast hx hb hK hP hD hS 2 0 rfl rfl hi_19 d_Wi_turnRound_114 (fun H locs hP hD hS => ?_)
            have hP : va_P (dC, dI) cls [(a_p0, .inr (2, [.ref a_told, .ref z_rows, .ref z_back, .ref a_spareBack, .ref a_left, .int size, .int kind])), (a_told, .inl (cI, 8, .inl told)), (a_spareBack, .inl (cI, 8, .inl (upd spareBack x3.toNatClampNeg t_18))), (a_left, .inl (cI, 8, .inl (upd left x3.toNatClampNeg t_14)))] H := hP
            have hD : va_D A [(a_p0, .inr (2, [.ref a_told, .ref z_rows, .ref z_back, .ref a_spareBack, .ref a_left, .int size, .int kind])), (a_told, .inl (cI, 8, .inl told)), (a_spareBack, .inl (cI, 8, .inl (upd spareBack x3.toNatClampNeg t_18))), (a_left, .inl (cI, 8, .inl (upd left x3.toNatClampNeg t_14)))] := hD
            exact B_115 k_39 hk_39 (b_Wi_turnRound_59 F k_39 size told n) ih x2 x3 (upd spareBack x3.toNatClampNeg t_18) (upd left x3.toNatClampNeg t_14) H locs ls hf hP hD hS (lv_sub hl [0, 1, 2] rfl)
  have B_39 : ∀ (n : Nat), ∀ (x2 : Int32) (spareBack : Nat → Int32) (left : Nat → Int32) (H : Heap) (locs : List Loc) (ls : Array Slot), b_Wi_turnRound_39 F size told n x2 spareBack left = some u → va_P (dC, dI) cls [(a_p0, .inr (2, [.ref a_told, .ref z_rows, .ref z_back, .ref a_spareBack, .ref a_left, .int size, .int kind])), (a_told, .inl (cI, 8, .inl told)), (a_spareBack, .inl (cI, 8, .inl spareBack)), (a_left, .inl (cI, 8, .inl left))] H → va_D A [(a_p0, .inr (2, [.ref a_told, .ref z_rows, .ref z_back, .ref a_spareBack, .ref a_left, .int size, .int kind])), (a_told, .inl (cI, 8, .inl told)), (a_spareBack, .inl (cI, 8, .inl spareBack)), (a_left, .inl (cI, 8, .inl left))] → va_S A s.heap H locs → lv_has ls 4 [(0, .ref a_p0), (2, .int x2)] → W p l e (headSpec (Cond.code y_Wi_turnRound prog_4_method_5_code 4 (some .boolean) :: T0) rm_Wi_turnRound).room s m ([.ref a_p0, .int p1] : List Value).toArray below meth c H locs 0 0 Q (F0 m 39 ls []) := by
    intro n
    induction n with
    | zero =>
      intro x2 spareBack left H locs ls hf hP hD hS hl
      exact no_fuel hf
    | succ n ih =>
      intro x2 spareBack left H locs ls hf hP hD hS hl
      rw [b_Wi_turnRound_39] at hf
      refine lv_iload_n hx hb d_Wi_turnRound_39 rfl (lv_at hl 1 rfl) ?_
      refine lv_aload_n hx hb d_Wi_turnRound_40 rfl (lv_at hl 0 rfl) ?_
      refine va_get (D := (dC, dI)) (ci := 2) (v := .int size) (C := "FermionMaps$Wiring") (T := F_Wi) (N := 7) hx hb ht0 i_Wi hown hK hP 0 rfl rfl 5 (by decide) (ht0 _ m_63) (fun _ h9 => h9) rfl d_Wi_turnRound_41 ?_
      refine lv_icmp_ge (tgt := 127) hx hb d_Wi_turnRound_44 (by decide) (fun c_2 => ?_) (fun c_2 => ?_)
      · replace hf := if_t c_2 hf
        refine lv_iconst (v := 1) hx hb d_Wi_turnRound_127 (by decide) ?_
        have hu := Option.some.inj hf
        subst hu
        exact rw_z hQ rfl rfl rfl hP hD hK hS hx hb hr hlocks d_Wi_turnRound_128
      · replace hf := if_f c_2 hf
        refine lv_aload_n hx hb d_Wi_turnRound_47 rfl (lv_at hl 0 rfl) ?_
        refine lv_iload_n hx hb d_Wi_turnRound_48 rfl (lv_at hl 1 rfl) ?_
        obtain ⟨u_3, h_u_3, hf⟩ := bd hf
        refine wr_i (wr := [(a_told, .inl (cI, 8, .inl told))]) (wrV_run (As := [.int x2]) (rest := []) ⟨hx, hb, hml, hown, ht0⟩ (c_Wi_bringUp l dC dI cI cJ a_p0 a_spareBack a_left a_told z_rows z_back H.size size kind spareBack left x2 F u_3 h_u_3) (cwV 1 ht0 (gV m_233 m_234 m_235 m_3 m_236) rfl rfl rfl (by decide +kernel) ⟨Nat.le_of_ble_eq_true rfl, Nat.le_of_ble_eq_true rfl⟩) hK hNW hP hD [0, 2, 3] rfl rfl (by decide) (ci := 2) (q0 := 0) rfl rfl rfl hl.1 rfl (Nat.le_of_ble_eq_true rfl) d_Wi_turnRound_49 ⟨Nat.zero_le _, Nat.zero_le _⟩) hP hD hS hA [0, 2, 3] [1] rfl rfl (by decide) (by decide) (fun w1 H locs hw hP hD hS => ?_)
        obtain rfl := hw
        have hP : va_P (dC, dI) cls [(a_p0, .inr (2, [.ref a_told, .ref z_rows, .ref z_back, .ref a_spareBack, .ref a_left, .int size, .int kind])), (a_told, .inl (cI, 8, .inl told)), (a_spareBack, .inl (cI, 8, .inl u_3.2.1)), (a_left, .inl (cI, 8, .inl u_3.2.2))] H := hP.sub [1, 0, 2, 3] rfl
        have hD : va_D A [(a_p0, .inr (2, [.ref a_told, .ref z_rows, .ref z_back, .ref a_spareBack, .ref a_left, .int size, .int kind])), (a_told, .inl (cI, 8, .inl told)), (a_spareBack, .inl (cI, 8, .inl u_3.2.1)), (a_left, .inl (cI, 8, .inl u_3.2.2))] := hD.sub [1, 0, 2, 3] (by decide) rfl
        refine lv_if_ne (tgt := 57) hx hb d_Wi_turnRound_52 (by decide) (fun c_4 => ?_) (fun c_4 => ?_)
        · replace hf := if_f c_4 hf
          refine lv_iconst (v := 0) hx hb d_Wi_turnRound_57 (by decide) ?_
          refine lv_istore_n (lv' := [(3, .int 0), (0, .ref a_p0), (2, .int x2)]) hx hb d_Wi_turnRound_58 rfl hl (by decide) rfl (fun ls hl => ?_)
          exact B_59 (b_Wi_turnRound_39 F size told n) ih F x2 0 u_3.2.1 u_3.2.2 H locs ls hf hP hD hS (lv_sub hl [1, 2, 0] rfl)
        · replace hf := if_t c_4 hf
          refine lv_iconst (v := 0) hx hb d_Wi_turnRound_55 (by decide) ?_
          have hu := Option.some.inj hf
          subst hu
          exact rw_z hQ rfl rfl rfl hP hD hK hS hx hb hr hlocks d_Wi_turnRound_56
  have B_2 : ∀ (n : Nat), ∀ (x1 : Int32) (x2 : Int32) (spareBack : Nat → Int32) (left : Nat → Int32) (H : Heap) (locs : List Loc) (ls : Array Slot), b_Wi_turnRound_2 F size told n x1 x2 spareBack left = some u → va_P (dC, dI) cls [(a_p0, .inr (2, [.ref a_told, .ref z_rows, .ref z_back, .ref a_spareBack, .ref a_left, .int size, .int kind])), (a_told, .inl (cI, 8, .inl told)), (a_spareBack, .inl (cI, 8, .inl spareBack)), (a_left, .inl (cI, 8, .inl left))] H → va_D A [(a_p0, .inr (2, [.ref a_told, .ref z_rows, .ref z_back, .ref a_spareBack, .ref a_left, .int size, .int kind])), (a_told, .inl (cI, 8, .inl told)), (a_spareBack, .inl (cI, 8, .inl spareBack)), (a_left, .inl (cI, 8, .inl left))] → va_S A s.heap H locs → lv_has ls 4 [(0, .ref a_p0), (1, .int x1), (2, .int x2)] → W p l e (headSpec (Cond.code y_Wi_turnRound prog_4_method_5_code 4 (some .boolean) :: T0) rm_Wi_turnRound).room s m ([.ref a_p0, .int p1] : List Value).toArray below meth c H locs 0 0 Q (F0 m 2 ls []) := by
    intro n
    induction n with
    | zero =>
      intro x1 x2 spareBack left H locs ls hf hP hD hS hl
      exact no_fuel hf
    | succ n ih =>
      intro x1 x2 spareBack left H locs ls hf hP hD hS hl
      rw [b_Wi_turnRound_2] at hf
      refine lv_iload_n hx hb d_Wi_turnRound_2 rfl (lv_at hl 2 rfl) ?_
      refine lv_aload_n hx hb d_Wi_turnRound_3 rfl (lv_at hl 0 rfl) ?_
      refine va_get (D := (dC, dI)) (ci := 2) (v := .int size) (C := "FermionMaps$Wiring") (T := F_Wi) (N := 7) hx hb ht0 i_Wi hown hK hP 0 rfl rfl 5 (by decide) (ht0 _ m_63) (fun _ h9 => h9) rfl d_Wi_turnRound_4 ?_
      refine lv_icmp_ge (tgt := 37) hx hb d_Wi_turnRound_7 (by decide) (fun c_1 => ?_) (fun c_1 => ?_)
      · replace hf := if_t c_1 hf
        refine lv_iconst (v := 0) hx hb d_Wi_turnRound_37 (by decide) ?_
        refine lv_istore_n (lv' := [(2, .int 0), (0, .ref a_p0), (1, .int x1)]) hx hb d_Wi_turnRound_38 rfl hl (by decide) rfl (fun ls hl => ?_)
        exact B_39 F 0 spareBack left H locs ls hf hP hD hS (lv_sub hl [1, 0] rfl)
      · replace hf := if_f c_1 hf
        refine lv_aload_n hx hb d_Wi_turnRound_10 rfl (lv_at hl 0 rfl) ?_
        refine va_get (D := (dC, dI)) (ci := 2) (v := .ref a_left) (C := "FermionMaps$Wiring") (T := F_Wi) (N := 7) hx hb ht0 i_Wi hown hK hP 0 rfl rfl 4 (by decide) (ht0 _ m_62) (fun _ h9 => h9) rfl d_Wi_turnRound_11 ?_
        refine lv_iload_n hx hb d_Wi_turnRound_14 rfl (lv_at hl 2 rfl) ?_
        refine lv_aload_n hx hb d_Wi_turnRound_15 rfl (lv_at hl 0 rfl) ?_
        refine lv_iload_n hx hb d_Wi_turnRound_16 rfl (lv_at hl 1 rfl) ?_
        refine lv_iload_n hx hb d_Wi_turnRound_17 rfl (lv_at hl 2 rfl) ?_
        obtain ⟨u_20, h_u_20, hf⟩ := bd hf
        refine rd_i (rdV_run (As := [.int x1, .int x2]) (rest := [.int x2, .ref a_left]) ⟨hx, hb, hml, hown, ht0⟩ (c_Wi_rowOf l dC dI cI cJ a_p0 a_told z_rows z_back a_spareBack a_left size kind told x1 x2 F u_20 h_u_20) (cwV 2 ht0 (gV m_229 m_230 m_231 m_3 m_232) rfl rfl rfl (by decide +kernel) ⟨Nat.le_of_ble_eq_true rfl, Nat.le_of_ble_eq_true rfl⟩) hK hNW hP [0, 1] rfl (ci := 2) (q0 := 0) rfl rfl rfl hl.1 rfl (Nat.le_of_ble_eq_true rfl) d_Wi_turnRound_18 ⟨Nat.zero_le _, Nat.zero_le _⟩) ?_
        obtain ⟨hi_21, hf⟩ := ckI_ok hf
        refine va_iast hx hb hK hP hD hS 3 0 rfl rfl hi_21 d_Wi_turnRound_21 (fun H locs hP hD hS => ?_)
        have hP : va_P (dC, dI) cls [(a_p0, .inr (2, [.ref a_told, .ref z_rows, .ref z_back, .ref a_spareBack, .ref a_left, .int size, .int kind])), (a_told, .inl (cI, 8, .inl told)), (a_spareBack, .inl (cI, 8, .inl spareBack)), (a_left, .inl (cI, 8, .inl (upd left x2.toNatClampNeg u_20)))] H := hP
        have hD : va_D A [(a_p0, .inr (2, [.ref a_told, .ref z_rows, .ref z_back, .ref a_spareBack, .ref a_left, .int size, .int kind])), (a_told, .inl (cI, 8, .inl told)), (a_spareBack, .inl (cI, 8, .inl spareBack)), (a_left, .inl (cI, 8, .inl (upd left x2.toNatClampNeg u_20)))] := hD
        refine lv_aload_n hx hb d_Wi_turnRound_22 rfl (lv_at hl 0 rfl) ?_
        refine va_get (D := (dC, dI)) (ci := 2) (v := .ref a_spareBack) (C := "FermionMaps$Wiring") (T := F_Wi) (N := 7) hx hb ht0 i_Wi hown hK hP 0 rfl rfl 3 (by decide) (ht0 _ m_61) (fun _ h9 => h9) rfl d_Wi_turnRound_23 ?_
        refine lv_iload_n hx hb d_Wi_turnRound_26 rfl (lv_at hl 2 rfl) ?_
        refine lv_iconst (v := 1) hx hb d_Wi_turnRound_27 (by decide) ?_
        refine lv_iload_n hx hb d_Wi_turnRound_28 rfl (lv_at hl 2 rfl) ?_
        refine lv_ishl hx hb d_Wi_turnRound_29 ?_
        refine lv_topi (fun t_22 e_t_22 => ?_)
        replace hf := nm_eq e_t_22 hf
        obtain ⟨hi_23, hf⟩ := ckI_ok hf
        refine va_iast hx hb hK hP hD hS 2 0 rfl rfl hi_23 d_Wi_turnRound_30 (fun H locs hP hD hS => ?_)
        have hP : va_P (dC, dI) cls [(a_p0, .inr (2, [.ref a_told, .ref z_rows, .ref z_back, .ref a_spareBack, .ref a_left, .int size, .int kind])), (a_told, .inl (cI, 8, .inl told)), (a_spareBack, .inl (cI, 8, .inl (upd spareBack x2.toNatClampNeg t_22))), (a_left, .inl (cI, 8, .inl (upd left x2.toNatClampNeg u_20)))] H := hP
        have hD : va_D A [(a_p0, .inr (2, [.ref a_told, .ref z_rows, .ref z_back, .ref a_spareBack, .ref a_left, .int size, .int kind])), (a_told, .inl (cI, 8, .inl told)), (a_spareBack, .inl (cI, 8, .inl (upd spareBack x2.toNatClampNeg t_22))), (a_left, .inl (cI, 8, .inl (upd left x2.toNatClampNeg u_20)))] := hD
        obtain ⟨x2_24, e_x2_24⟩ : ∃ y : Int32, y = x2 + 1 := ⟨_, rfl⟩
        replace hf := nm_eq e_x2_24 hf
        refine lv_iinc (v := x2_24) (lv' := [(2, .int x2_24), (0, .ref a_p0), (1, .int x1)]) hx hb d_Wi_turnRound_31 hl (k := 2) rfl (by rw [e_x2_24]; rfl) (by decide) rfl (fun ls hl => ?_)
        refine lv_goto (tgt := 2) hx hb d_Wi_turnRound_34 (by decide) ?_
        exact ih x1 x2_24 (upd spareBack x2.toNatClampNeg t_22) (upd left x2.toNatClampNeg u_20) H locs ls hf hP hD hS (lv_sub hl [1, 2, 0] rfl)
  rw [f_Wi_turnRound] at hf
  refine lv_iconst (v := 0) hx hb d_Wi_turnRound_0 (by decide) ?_
  refine lv_istore_n (lv' := [(2, .int 0), (0, .ref a_p0), (1, .int p1)]) hx hb d_Wi_turnRound_1 rfl hl (by decide) rfl (fun ls hl => ?_)
  exact B_2 F p1 0 spareBack left s.heap [] ls hf hP hD hS (lv_sub hl [1, 2, 0] rfl)

/-! FermionMaps$Wiring.choose(I)Z -/
def b_Wi_choose_35 (F : Nat) (size : Int32) (told : Nat → Int32) : Nat → Int32 → Int32 → Int32 → (Nat → Int32) → (Nat → Int32) → (Nat → Int32) → (Nat → Int32) → Option (Int32 × Int32 × (Nat → Int32) × (Nat → Int32) × (Nat → Int32) × (Nat → Int32))
  | 0, _, _, _, _, _, _, _ => none
  | n + 1, x1, x3, kind, rows, back, spareBack, left =>
    if size ≤ x3 then
      some (1, kind, rows, back, spareBack, left)
    else
      (f_Wi_rowOf F told x1 x3).bind fun u_4 =>
      ckI x3 8 <|
      nm (x3 + 1 : Int32) fun x3_6 =>
      b_Wi_choose_35 F size told n x1 x3_6 kind (upd rows x3.toNatClampNeg u_4) back spareBack left
def f_Wi_choose (F : Nat) (size : Int32) (kind : Int32) (told : Nat → Int32) (rows : Nat → Int32) (back : Nat → Int32) (spareBack : Nat → Int32) (left : Nat → Int32) (p1 : Int32) : Option (Int32 × Int32 × (Nat → Int32) × (Nat → Int32) × (Nat → Int32) × (Nat → Int32)) :=
  (f_Wi_turnRound F size told spareBack left p1).bind fun u_1 =>
  if u_1.1 = 0 then
    some (0, kind, rows, back, u_1.2.1, u_1.2.2)
  else
    b_Wi_choose_35 F size told F p1 0 p1 rows u_1.2.1 back u_1.2.2
abbrev rm_Wi_choose : Room := { frames := 3, cells := 0, slots := 0, locals := 68 }
set_option maxHeartbeats 4000000 in
set_option maxRecDepth 100000 in
theorem c_Wi_choose (l : Launch) (dC : Nat → ClassId) (dI : Nat → Nat → Nat) (cI cJ : ClassId) (a_p0 a_told a_rows a_back a_spareBack a_left : Nat) (sz : Nat) (size : Int32) (kind : Int32) (told : Nat → Int32) (rows : Nat → Int32) (back : Nat → Int32) (spareBack : Nat → Int32) (left : Nat → Int32) (p1 : Int32) (F : Nat) (u : Int32 × Int32 × (Nat → Int32) × (Nat → Int32) × (Nat → Int32) × (Nat → Int32)) (hf : f_Wi_choose F size kind told rows back spareBack left p1 = some u) : Met l y_Wi_choose (Cond.code y_Wi_choose prog_4_method_3_code 4 (some .boolean) :: T0) rm_Wi_choose (va_Pc [.ref a_p0, .int p1] (Ww (dC, dI) [(a_p0, .inr (2, [.ref a_told, .ref a_rows, .ref a_back, .ref a_spareBack, .ref a_left, .int size, .int kind])), (a_told, .inl (cI, 8, .inl told)), (a_rows, .inl (cI, 8, .inl rows)), (a_back, .inl (cI, 8, .inl back)), (a_spareBack, .inl (cI, 8, .inl spareBack)), (a_left, .inl (cI, 8, .inl left))] [(cI, .int), (cJ, .long)] sz)) (va_Qi (fun r (_ : Unit) => r = u.1) (Bw (dC, dI) [(cI, .int), (cJ, .long)] (va_A [(a_p0, .inr (2, [.ref a_told, .ref a_rows, .ref a_back, .ref a_spareBack, .ref a_left, .int size, .int kind])), (a_told, .inl (cI, 8, .inl told)), (a_rows, .inl (cI, 8, .inl rows)), (a_back, .inl (cI, 8, .inl back)), (a_spareBack, .inl (cI, 8, .inl spareBack)), (a_left, .inl (cI, 8, .inl left))] sz) (fun w1 => ∃ q_told q_rows q_back q_spareBack q_left : Nat, w1 = [(a_p0, .inr (2, [.ref q_told, .ref q_rows, .ref q_back, .ref q_spareBack, .ref q_left, .int size, .int u.2.1])), (q_told, .inl (cI, 8, .inl told)), (q_rows, .inl (cI, 8, .inl u.2.2.1)), (q_back, .inl (cI, 8, .inl u.2.2.2.1)), (q_spareBack, .inl (cI, 8, .inl u.2.2.2.2.1)), (q_left, .inl (cI, 8, .inl u.2.2.2.2.2))])) (va_A [(a_p0, .inr (2, [.ref a_told, .ref a_rows, .ref a_back, .ref a_spareBack, .ref a_left, .int size, .int kind])), (a_told, .inl (cI, 8, .inl told)), (a_rows, .inl (cI, 8, .inl rows)), (a_back, .inl (cI, 8, .inl back)), (a_spareBack, .inl (cI, 8, .inl spareBack)), (a_left, .inl (cI, 8, .inl left))] sz)) 0 0 (va_A [(a_p0, .inr (2, [.ref a_told, .ref a_rows, .ref a_back, .ref a_spareBack, .ref a_left, .int size, .int kind])), (a_told, .inl (cI, 8, .inl told)), (a_rows, .inl (cI, 8, .inl rows)), (a_back, .inl (cI, 8, .inl back)), (a_spareBack, .inl (cI, 8, .inl spareBack)), (a_left, .inl (cI, 8, .inl left))] sz) := by
  refine Met.ofW (cc := prog_4_method_3_code) (maxL := 4) (ret := (some .boolean)) (by decide) rfl ?_
  intro p e s m args below meth c s₁ B hml hv
  obtain ⟨rfl, hsz, hP, hK, hD0, hNW⟩ := hv
  have hx := B.exec
  have hb := B.bytes
  have hr := B.returns
  have hts := atoms_spec (ws := Cond.code y_Wi_choose prog_4_method_3_code 4 (some .boolean) :: T0) B.pre
  have ht0 : ∀ w ∈ T0, w.before ([.ref a_p0, .int p1] : List Value).toArray s = true := fun w h => hts w (List.mem_cons_of_mem _ h)
  have hown : s.vm.findClass "FermionMaps$Wiring" = some m.cls := findClass_of_methodNamed B.named
  have hlocks := B.notSynchronized
  subst hsz
  have hD := hD0.self (sz := s.heap.size)
  generalize hAe : va_A [(a_p0, .inr (2, [.ref a_told, .ref a_rows, .ref a_back, .ref a_spareBack, .ref a_left, .int size, .int kind])), (a_told, .inl (cI, 8, .inl told)), (a_rows, .inl (cI, 8, .inl rows)), (a_back, .inl (cI, 8, .inl back)), (a_spareBack, .inl (cI, 8, .inl spareBack)), (a_left, .inl (cI, 8, .inl left))] s.heap.size = A at hD ⊢
  have hA : ∀ q : Nat, s.heap.size ≤ q → A q := fun q h => by rw [← hAe]; exact Or.inr h
  have hS : va_S A s.heap s.heap [] := va_S.rf
  have hl := lv_entry ([.ref a_p0, .int p1]) (n := 4) (Nat.le_of_ble_eq_true rfl)
  rw [lg_entry_eq]
  generalize (lg_sl ([.ref a_p0, .int p1]) ++ List.replicate (4 - (lg_sl ([.ref a_p0, .int p1])).length) Slot.unset).toArray = ls at hl ⊢
  have hl : lv_has ls 4 [(0, .ref a_p0), (1, .int p1)] := hl
  refine W.nameQ (fun Q hQ => ?_)
  have B_35 : ∀ (n : Nat), ∀ (x1 : Int32) (x3 : Int32) (kind : Int32) (rows : Nat → Int32) (back : Nat → Int32) (spareBack : Nat → Int32) (left : Nat → Int32) (H : Heap) (locs : List Loc) (ls : Array Slot), b_Wi_choose_35 F size told n x1 x3 kind rows back spareBack left = some u → va_P (dC, dI) cls [(a_p0, .inr (2, [.ref a_told, .ref a_rows, .ref a_spareBack, .ref a_back, .ref a_left, .int size, .int kind])), (a_told, .inl (cI, 8, .inl told)), (a_rows, .inl (cI, 8, .inl rows)), (a_back, .inl (cI, 8, .inl spareBack)), (a_spareBack, .inl (cI, 8, .inl back)), (a_left, .inl (cI, 8, .inl left))] H → va_D A [(a_p0, .inr (2, [.ref a_told, .ref a_rows, .ref a_spareBack, .ref a_back, .ref a_left, .int size, .int kind])), (a_told, .inl (cI, 8, .inl told)), (a_rows, .inl (cI, 8, .inl rows)), (a_back, .inl (cI, 8, .inl spareBack)), (a_spareBack, .inl (cI, 8, .inl back)), (a_left, .inl (cI, 8, .inl left))] → va_S A s.heap H locs → lv_has ls 4 [(0, .ref a_p0), (1, .int x1), (3, .int x3)] → W p l e (headSpec (Cond.code y_Wi_choose prog_4_method_3_code 4 (some .boolean) :: T0) rm_Wi_choose).room s m ([.ref a_p0, .int p1] : List Value).toArray below meth c H locs 0 0 Q (F0 m 35 ls []) := by
    intro n
    induction n with
    | zero =>
      intro x1 x3 kind rows back spareBack left H locs ls hf hP hD hS hl
      exact no_fuel hf
    | succ n ih =>
      intro x1 x3 kind rows back spareBack left H locs ls hf hP hD hS hl
      rw [b_Wi_choose_35] at hf
      refine lv_iload_n hx hb d_Wi_choose_35 rfl (lv_at hl 2 rfl) ?_
      refine lv_aload_n hx hb d_Wi_choose_36 rfl (lv_at hl 0 rfl) ?_
      refine va_get (D := (dC, dI)) (ci := 2) (v := .int size) (C := "FermionMaps$Wiring") (T := F_Wi) (N := 7) hx hb ht0 i_Wi hown hK hP 0 rfl rfl 5 (by decide) (ht0 _ m_63) (fun _ h9 => h9) rfl d_Wi_choose_37 ?_
      refine lv_icmp_ge (tgt := 61) hx hb d_Wi_choose_40 (by decide) (fun c_3 => ?_) (fun c_3 => ?_)
      · replace hf := if_t c_3 hf
        refine lv_iconst (v := 1) hx hb d_Wi_choose_61 (by decide) ?_
        have hu := Option.some.inj hf
        subst hu
        have hP : va_P (dC, dI) cls [(a_p0, .inr (2, [.ref a_told, .ref a_rows, .ref a_spareBack, .ref a_back, .ref a_left, .int size, .int kind])), (a_told, .inl (cI, 8, .inl told)), (a_rows, .inl (cI, 8, .inl rows)), (a_spareBack, .inl (cI, 8, .inl back)), (a_back, .inl (cI, 8, .inl spareBack)), (a_left, .inl (cI, 8, .inl left))] H := hP.sub [0, 1, 2, 4, 3, 5] rfl
        have hD : va_D A [(a_p0, .inr (2, [.ref a_told, .ref a_rows, .ref a_spareBack, .ref a_back, .ref a_left, .int size, .int kind])), (a_told, .inl (cI, 8, .inl told)), (a_rows, .inl (cI, 8, .inl rows)), (a_spareBack, .inl (cI, 8, .inl back)), (a_back, .inl (cI, 8, .inl spareBack)), (a_left, .inl (cI, 8, .inl left))] := hD.sub [0, 1, 2, 4, 3, 5] (by decide) rfl
        exact rw_z hQ rfl rfl ⟨a_told, a_rows, a_spareBack, a_back, a_left, rfl⟩ hP hD hK hS hx hb hr hlocks d_Wi_choose_62
      · replace hf := if_f c_3 hf
        refine lv_aload_n hx hb d_Wi_choose_43 rfl (lv_at hl 0 rfl) ?_
        refine va_get (D := (dC, dI)) (ci := 2) (v := .ref a_rows) (C := "FermionMaps$Wiring") (T := F_Wi) (N := 7) hx hb ht0 i_Wi hown hK hP 0 rfl rfl 1 (by decide) (ht0 _ m_55) (fun _ h9 => h9) rfl d_Wi_choose_44 ?_
        refine lv_iload_n hx hb d_Wi_choose_47 rfl (lv_at hl 2 rfl) ?_
        refine lv_aload_n hx hb d_Wi_choose_48 rfl (lv_at hl 0 rfl) ?_
        refine lv_iload_n hx hb d_Wi_choose_49 rfl (lv_at hl 1 rfl) ?_
        refine lv_iload_n hx hb d_Wi_choose_50 rfl (lv_at hl 2 rfl) ?_
        obtain ⟨u_4, h_u_4, hf⟩ := bd hf
        refine rd_i (rdV_run (As := [.int x1, .int x3]) (rest := [.int x3, .ref a_rows]) ⟨hx, hb, hml, hown, ht0⟩ (c_Wi_rowOf l dC dI cI cJ a_p0 a_told a_rows a_spareBack a_back a_left size kind told x1 x3 F u_4 h_u_4) (cwV 2 ht0 (gV m_229 m_230 m_231 m_3 m_232) rfl rfl rfl (by decide +kernel) ⟨Nat.le_of_ble_eq_true rfl, Nat.le_of_ble_eq_true rfl⟩) hK hNW hP [0, 1] rfl (ci := 2) (q0 := 0) rfl rfl rfl hl.1 rfl (Nat.le_of_ble_eq_true rfl) d_Wi_choose_51 ⟨Nat.zero_le _, Nat.zero_le _⟩) ?_
        obtain ⟨hi_5, hf⟩ := ckI_ok hf
        refine va_iast hx hb hK hP hD hS 2 0 rfl rfl hi_5 d_Wi_choose_54 (fun H locs hP hD hS => ?_)
        have hP : va_P (dC, dI) cls [(a_p0, .inr (2, [.ref a_told, .ref a_rows, .ref a_spareBack, .ref a_back, .ref a_left, .int size, .int kind])), (a_told, .inl (cI, 8, .inl told)), (a_rows, .inl (cI, 8, .inl (upd rows x3.toNatClampNeg u_4))), (a_back, .inl (cI, 8, .inl spareBack)), (a_spareBack, .inl (cI, 8, .inl back)), (a_left, .inl (cI, 8, .inl left))] H := hP
        have hD : va_D A [(a_p0, .inr (2, [.ref a_told, .ref a_rows, .ref a_spareBack, .ref a_back, .ref a_left, .int size, .int kind])), (a_told, .inl (cI, 8, .inl told)), (a_rows, .inl (cI, 8, .inl (upd rows x3.toNatClampNeg u_4))), (a_back, .inl (cI, 8, .inl spareBack)), (a_spareBack, .inl (cI, 8, .inl back)), (a_left, .inl (cI, 8, .inl left))] := hD
        obtain ⟨x3_6, e_x3_6⟩ : ∃ y : Int32, y = x3 + 1 := ⟨_, rfl⟩
        replace hf := nm_eq e_x3_6 hf
        refine lv_iinc (v := x3_6) (lv' := [(3, .int x3_6), (0, .ref a_p0), (1, .int x1)]) hx hb d_Wi_choose_55 hl (k := 2) rfl (by rw [e_x3_6]; rfl) (by decide) rfl (fun ls hl => ?_)
        refine lv_goto (tgt := 35) hx hb d_Wi_choose_58 (by decide) ?_
        exact ih x1 x3_6 kind (upd rows x3.toNatClampNeg u_4) back spareBack left H locs ls hf hP hD hS (lv_sub hl [1, 2, 0] rfl)
  rw [f_Wi_choose] at hf
  refine lv_aload_n hx hb d_Wi_choose_0 rfl (lv_at hl 0 rfl) ?_
  refine lv_iload_n hx hb d_Wi_choose_1 rfl (lv_at hl 1 rfl) ?_
  obtain ⟨u_1, h_u_1, hf⟩ := bd hf
  refine wr_i (wr := [(a_rows, .inl (cI, 8, .inl rows)), (a_back, .inl (cI, 8, .inl back))]) (wrV_run (As := [.int p1]) (rest := []) ⟨hx, hb, hml, hown, ht0⟩ (c_Wi_turnRound l dC dI cI cJ a_p0 a_told a_spareBack a_left a_rows a_back s.heap.size size kind told spareBack left p1 F u_1 h_u_1) (cwV 1 ht0 (gV m_225 m_226 m_227 m_3 m_228) rfl rfl rfl (by decide +kernel) ⟨Nat.le_of_ble_eq_true rfl, Nat.le_of_ble_eq_true rfl⟩) hK hNW hP hD [0, 1, 4, 5] rfl rfl (by decide) (ci := 2) (q0 := 0) rfl rfl rfl hl.1 rfl (Nat.le_of_ble_eq_true rfl) d_Wi_choose_2 ⟨Nat.zero_le _, Nat.zero_le _⟩) hP hD hS hA [0, 1, 4, 5] [2, 3] rfl rfl (by decide) (by decide) (fun w1 H locs hw hP hD hS => ?_)
  obtain rfl := hw
  have hP : va_P (dC, dI) cls [(a_p0, .inr (2, [.ref a_told, .ref a_rows, .ref a_back, .ref a_spareBack, .ref a_left, .int size, .int kind])), (a_told, .inl (cI, 8, .inl told)), (a_rows, .inl (cI, 8, .inl rows)), (a_back, .inl (cI, 8, .inl back)), (a_spareBack, .inl (cI, 8, .inl u_1.2.1)), (a_left, .inl (cI, 8, .inl u_1.2.2))] H := hP.sub [2, 3, 0, 1, 4, 5] rfl
  have hD : va_D A [(a_p0, .inr (2, [.ref a_told, .ref a_rows, .ref a_back, .ref a_spareBack, .ref a_left, .int size, .int kind])), (a_told, .inl (cI, 8, .inl told)), (a_rows, .inl (cI, 8, .inl rows)), (a_back, .inl (cI, 8, .inl back)), (a_spareBack, .inl (cI, 8, .inl u_1.2.1)), (a_left, .inl (cI, 8, .inl u_1.2.2))] := hD.sub [2, 3, 0, 1, 4, 5] (by decide) rfl
  refine lv_if_ne (tgt := 10) hx hb d_Wi_choose_5 (by decide) (fun c_2 => ?_) (fun c_2 => ?_)
  · replace hf := if_f c_2 hf
    refine lv_aload_n hx hb d_Wi_choose_10 rfl (lv_at hl 0 rfl) ?_
    refine va_get (D := (dC, dI)) (ci := 2) (v := .ref a_back) (C := "FermionMaps$Wiring") (T := F_Wi) (N := 7) hx hb ht0 i_Wi hown hK hP 0 rfl rfl 2 (by decide) (ht0 _ m_58) (fun _ h9 => h9) rfl d_Wi_choose_11 ?_
    refine lv_astore_n (lv' := [(2, .ref a_back), (0, .ref a_p0), (1, .int p1)]) hx hb d_Wi_choose_14 rfl hl (by decide) rfl (fun ls hl => ?_)
    refine lv_aload_n hx hb d_Wi_choose_15 rfl (lv_at hl 1 rfl) ?_
    refine lv_aload_n hx hb d_Wi_choose_16 rfl (lv_at hl 1 rfl) ?_
    refine va_get (D := (dC, dI)) (ci := 2) (v := .ref a_spareBack) (C := "FermionMaps$Wiring") (T := F_Wi) (N := 7) hx hb ht0 i_Wi hown hK hP 0 rfl rfl 3 (by decide) (ht0 _ m_61) (fun _ h9 => h9) rfl d_Wi_choose_17 ?_
    refine va_put (D := (dC, dI)) (ci := 2) (v := .ref a_spareBack) (ty := .array .int) (C := "FermionMaps$Wiring") (T := F_Wi) (N := 7) hx hb ht0 i_Wi t_Wi t_Wi_ok n_Wi hown hK hP hD hS 0 rfl rfl 2 (by decide) (ht0 _ m_58) (fun _ h9 => h9) rfl (by decide +kernel) rfl rfl (Nat.le_of_ble_eq_true rfl) d_Wi_choose_20 (fun H locs hP hD hS => ?_)
    have hP : va_P (dC, dI) cls [(a_p0, .inr (2, [.ref a_told, .ref a_rows, .ref a_spareBack, .ref a_spareBack, .ref a_left, .int size, .int kind])), (a_told, .inl (cI, 8, .inl told)), (a_rows, .inl (cI, 8, .inl rows)), (a_back, .inl (cI, 8, .inl back)), (a_spareBack, .inl (cI, 8, .inl u_1.2.1)), (a_left, .inl (cI, 8, .inl u_1.2.2))] H := hP
    have hD : va_D A [(a_p0, .inr (2, [.ref a_told, .ref a_rows, .ref a_spareBack, .ref a_spareBack, .ref a_left, .int size, .int kind])), (a_told, .inl (cI, 8, .inl told)), (a_rows, .inl (cI, 8, .inl rows)), (a_back, .inl (cI, 8, .inl back)), (a_spareBack, .inl (cI, 8, .inl u_1.2.1)), (a_left, .inl (cI, 8, .inl u_1.2.2))] := hD
    refine lv_aload_n hx hb d_Wi_choose_23 rfl (lv_at hl 1 rfl) ?_
    refine lv_aload_n hx hb d_Wi_choose_24 rfl (lv_at hl 0 rfl) ?_
    refine va_put (D := (dC, dI)) (ci := 2) (v := .ref a_back) (ty := .array .int) (C := "FermionMaps$Wiring") (T := F_Wi) (N := 7) hx hb ht0 i_Wi t_Wi t_Wi_ok n_Wi hown hK hP hD hS 0 rfl rfl 3 (by decide) (ht0 _ m_61) (fun _ h9 => h9) rfl (by decide +kernel) rfl rfl (Nat.le_of_ble_eq_true rfl) d_Wi_choose_25 (fun H locs hP hD hS => ?_)
    have hP : va_P (dC, dI) cls [(a_p0, .inr (2, [.ref a_told, .ref a_rows, .ref a_spareBack, .ref a_back, .ref a_left, .int size, .int kind])), (a_told, .inl (cI, 8, .inl told)), (a_rows, .inl (cI, 8, .inl rows)), (a_back, .inl (cI, 8, .inl back)), (a_spareBack, .inl (cI, 8, .inl u_1.2.1)), (a_left, .inl (cI, 8, .inl u_1.2.2))] H := hP
    have hD : va_D A [(a_p0, .inr (2, [.ref a_told, .ref a_rows, .ref a_spareBack, .ref a_back, .ref a_left, .int size, .int kind])), (a_told, .inl (cI, 8, .inl told)), (a_rows, .inl (cI, 8, .inl rows)), (a_back, .inl (cI, 8, .inl back)), (a_spareBack, .inl (cI, 8, .inl u_1.2.1)), (a_left, .inl (cI, 8, .inl u_1.2.2))] := hD
    refine lv_aload_n hx hb d_Wi_choose_28 rfl (lv_at hl 1 rfl) ?_
    refine lv_iload_n hx hb d_Wi_choose_29 rfl (lv_at hl 2 rfl) ?_
    refine va_put (D := (dC, dI)) (ci := 2) (v := .int p1) (ty := .int) (C := "FermionMaps$Wiring") (T := F_Wi) (N := 7) hx hb ht0 i_Wi t_Wi t_Wi_ok n_Wi hown hK hP hD hS 0 rfl rfl 6 (by decide) (ht0 _ m_66) (fun _ h9 => h9) rfl (by decide +kernel) rfl rfl (Nat.le_of_ble_eq_true rfl) d_Wi_choose_30 (fun H locs hP hD hS => ?_)
    have hP : va_P (dC, dI) cls [(a_p0, .inr (2, [.ref a_told, .ref a_rows, .ref a_spareBack, .ref a_back, .ref a_left, .int size, .int p1])), (a_told, .inl (cI, 8, .inl told)), (a_rows, .inl (cI, 8, .inl rows)), (a_back, .inl (cI, 8, .inl back)), (a_spareBack, .inl (cI, 8, .inl u_1.2.1)), (a_left, .inl (cI, 8, .inl u_1.2.2))] H := hP
    have hD : va_D A [(a_p0, .inr (2, [.ref a_told, .ref a_rows, .ref a_spareBack, .ref a_back, .ref a_left, .int size, .int p1])), (a_told, .inl (cI, 8, .inl told)), (a_rows, .inl (cI, 8, .inl rows)), (a_back, .inl (cI, 8, .inl back)), (a_spareBack, .inl (cI, 8, .inl u_1.2.1)), (a_left, .inl (cI, 8, .inl u_1.2.2))] := hD
    refine lv_iconst (v := 0) hx hb d_Wi_choose_33 (by decide) ?_
    refine lv_istore_n (lv' := [(3, .int 0), (2, .ref a_back), (0, .ref a_p0), (1, .int p1)]) hx hb d_Wi_choose_34 rfl hl (by decide) rfl (fun ls hl => ?_)
    exact B_35 F p1 0 p1 rows u_1.2.1 back u_1.2.2 H locs ls hf hP hD hS (lv_sub hl [2, 3, 0] rfl)
  · replace hf := if_t c_2 hf
    refine lv_iconst (v := 0) hx hb d_Wi_choose_8 (by decide) ?_
    have hu := Option.some.inj hf
    subst hu
    exact rw_z hQ rfl rfl ⟨a_told, a_rows, a_back, a_spareBack, a_left, rfl⟩ hP hD hK hS hx hb hr hlocks d_Wi_choose_9

/-! FermionMaps$Wiring.bits([II)I -/
def b_Wi_bits_33 (F : Nat) (k_5 : Int32 → Int32 → Int32 → Option (Int32)) (size : Int32) (arr1 : Nat → Int32) (x2 : Int32) (x3 : Int32) (x4 : Int32) : Option (Int32) :=
  nm (x4 + 1 : Int32) fun x4_5 =>
  k_5 x2 x3 x4_5
def b_Wi_bits_5 (F : Nat) (size : Int32) (arr1 : Nat → Int32) : Nat → Int32 → Int32 → Int32 → Option (Int32)
  | 0, _, _, _ => none
  | n + 1, x2, x3, x4 =>
    if size ≤ x4 then
      some (x3)
    else
      ckI x4 8 <|
      (f_FM_isOdd F ((arr1 x4.toNatClampNeg) &&& x2)).bind fun u_3 =>
      if u_3 = 0 then
        b_Wi_bits_33 F (b_Wi_bits_5 F size arr1 n) size arr1 x2 x3 x4
      else
        nm ((x3 ||| ((1 : Int32) <<< (x4 &&& 31))) : Int32) fun x3_6 =>
        b_Wi_bits_33 F (b_Wi_bits_5 F size arr1 n) size arr1 x2 x3_6 x4
def f_Wi_bits (F : Nat) (size : Int32) (arr1 : Nat → Int32) (p2 : Int32) : Option (Int32) :=
  b_Wi_bits_5 F size arr1 F p2 0 0
abbrev rm_Wi_bits : Room := { frames := 2, cells := 0, slots := 0, locals := 40 }
set_option maxHeartbeats 4000000 in
set_option maxRecDepth 100000 in
theorem c_Wi_bits (l : Launch) (dC : Nat → ClassId) (dI : Nat → Nat → Nat) (cI cJ : ClassId) (a_p0 a_p1 z_told z_rows z_back z_spareBack z_left : Nat) (size : Int32) (kind : Int32) (arr1 : Nat → Int32) (p2 : Int32) (F : Nat) (u : Int32) (hf : f_Wi_bits F size arr1 p2 = some u) : Met l y_Wi_bits (Cond.code y_Wi_bits prog_4_method_7_code 5 (some .int) :: T0) rm_Wi_bits (va_Pc [.ref a_p0, .ref a_p1, .int p2] (Wr (dC, dI) [(a_p0, .inr (2, [.ref z_told, .ref z_rows, .ref z_back, .ref z_spareBack, .ref z_left, .int size, .int kind])), (a_p1, .inl (cI, 8, .inl arr1))] [(cI, .int), (cJ, .long)])) (vp_Si (fun r => r = u)) 0 0 (fun _ => False) := by
  refine Met.ofW (cc := prog_4_method_7_code) (maxL := 5) (ret := (some .int)) (by decide) rfl ?_
  intro p e s m args below meth c s₁ B hml hv
  obtain ⟨rfl, hP, hK, hNW⟩ := hv
  have hx := B.exec
  have hb := B.bytes
  have hr := B.returns
  have hts := atoms_spec (ws := Cond.code y_Wi_bits prog_4_method_7_code 5 (some .int) :: T0) B.pre
  have ht0 : ∀ w ∈ T0, w.before ([.ref a_p0, .ref a_p1, .int p2] : List Value).toArray s = true := fun w h => hts w (List.mem_cons_of_mem _ h)
  have hown : s.vm.findClass "FermionMaps$Wiring" = some m.cls := findClass_of_methodNamed B.named
  have hlocks := B.notSynchronized
  have hl := lv_entry ([.ref a_p0, .ref a_p1, .int p2]) (n := 5) (Nat.le_of_ble_eq_true rfl)
  rw [lg_entry_eq]
  generalize (lg_sl ([.ref a_p0, .ref a_p1, .int p2]) ++ List.replicate (5 - (lg_sl ([.ref a_p0, .ref a_p1, .int p2])).length) Slot.unset).toArray = ls at hl ⊢
  have hl : lv_has ls 5 [(0, .ref a_p0), (1, .ref a_p1), (2, .int p2)] := hl
  refine W.nameQ (fun Q hQ => ?_)
  have B_33 : ∀ (k_5 : Int32 → Int32 → Int32 → Option (Int32)) (hk_5 : ∀ (x2 : Int32) (x3 : Int32) (x4 : Int32) (ls : Array Slot), k_5 x2 x3 x4 = some u → lv_has ls 5 [(0, .ref a_p0), (1, .ref a_p1), (2, .int x2), (3, .int x3), (4, .int x4)] → W p l e (headSpec (Cond.code y_Wi_bits prog_4_method_7_code 5 (some .int) :: T0) rm_Wi_bits).room s m ([.ref a_p0, .ref a_p1, .int p2] : List Value).toArray below meth c s.heap [] 0 0 Q (F0 m 5 ls [])), ∀ (x2 : Int32) (x3 : Int32) (x4 : Int32) (ls : Array Slot), b_Wi_bits_33 F k_5 size arr1 x2 x3 x4 = some u → lv_has ls 5 [(0, .ref a_p0), (1, .ref a_p1), (2, .int x2), (3, .int x3), (4, .int x4)] → W p l e (headSpec (Cond.code y_Wi_bits prog_4_method_7_code 5 (some .int) :: T0) rm_Wi_bits).room s m ([.ref a_p0, .ref a_p1, .int p2] : List Value).toArray below meth c s.heap [] 0 0 Q (F0 m 33 ls []) := by
    intro k_5 hk_5
    intro x2 x3 x4 ls hf hl
    rw [b_Wi_bits_33] at hf
    obtain ⟨x4_5, e_x4_5⟩ : ∃ y : Int32, y = x4 + 1 := ⟨_, rfl⟩
    replace hf := nm_eq e_x4_5 hf
    refine lv_iinc (v := x4_5) (lv' := [(4, .int x4_5), (0, .ref a_p0), (1, .ref a_p1), (2, .int x2), (3, .int x3)]) hx hb d_Wi_bits_33 hl (k := 4) rfl (by rw [e_x4_5]; rfl) (by decide) rfl (fun ls hl => ?_)
    refine lv_goto (tgt := 5) hx hb d_Wi_bits_36 (by decide) ?_
    exact hk_5 x2 x3 x4_5 ls hf (lv_sub hl [1, 2, 3, 4, 0] rfl)
  have B_5 : ∀ (n : Nat), ∀ (x2 : Int32) (x3 : Int32) (x4 : Int32) (ls : Array Slot), b_Wi_bits_5 F size arr1 n x2 x3 x4 = some u → lv_has ls 5 [(0, .ref a_p0), (1, .ref a_p1), (2, .int x2), (3, .int x3), (4, .int x4)] → W p l e (headSpec (Cond.code y_Wi_bits prog_4_method_7_code 5 (some .int) :: T0) rm_Wi_bits).room s m ([.ref a_p0, .ref a_p1, .int p2] : List Value).toArray below meth c s.heap [] 0 0 Q (F0 m 5 ls []) := by
    intro n
    induction n with
    | zero =>
      intro x2 x3 x4 ls hf hl
      exact no_fuel hf
    | succ n ih =>
      intro x2 x3 x4 ls hf hl
      rw [b_Wi_bits_5] at hf
      refine lv_iload hx hb d_Wi_bits_5 (lv_at hl 4 rfl) ?_
      refine lv_aload_n hx hb d_Wi_bits_7 rfl (lv_at hl 0 rfl) ?_
      refine va_get (D := (dC, dI)) (ci := 2) (v := .int size) (C := "FermionMaps$Wiring") (T := F_Wi) (N := 7) hx hb ht0 i_Wi hown hK hP 0 rfl rfl 5 (by decide) (ht0 _ m_63) (fun _ h9 => h9) rfl d_Wi_bits_8 ?_
      refine lv_icmp_ge (tgt := 39) hx hb d_Wi_bits_11 (by decide) (fun c_1 => ?_) (fun c_1 => ?_)
      · replace hf := if_t c_1 hf
        refine lv_iload_n hx hb d_Wi_bits_39 rfl (lv_at hl 3 rfl) ?_
        have hu := Option.some.inj hf
        subst hu
        exact rt_i hQ rfl hx hb hr hlocks d_Wi_bits_40
      · replace hf := if_f c_1 hf
        refine lv_aload_n hx hb d_Wi_bits_14 rfl (lv_at hl 1 rfl) ?_
        refine lv_iload hx hb d_Wi_bits_15 (lv_at hl 4 rfl) ?_
        obtain ⟨hi_2, hf⟩ := ckI_ok hf
        refine va_iald hx hb hK hP 1 0 rfl rfl hi_2 d_Wi_bits_17 ?_
        refine lv_iload_n hx hb d_Wi_bits_18 rfl (lv_at hl 2 rfl) ?_
        refine lv_iand hx hb d_Wi_bits_19 ?_
        obtain ⟨u_3, h_u_3, hf⟩ := bd hf
        refine rd_i (rdSN_run (As := [.int ((arr1 x4.toNatClampNeg) &&& x2)]) (rest := []) ⟨hx, hb, hml, hown, ht0⟩ (c_FM_isOdd l dC dI cI cJ ((arr1 x4.toNatClampNeg) &&& x2) F u_3 h_u_3) ⟨va_cnB (host := "FermionMaps") 1 ht0 (gC m_201) rfl rfl rfl (nw_Wi_49 hNW) (ht0 _ m_1) (by decide +kernel) ⟨Nat.le_of_ble_eq_true rfl, Nat.le_of_ble_eq_true rfl⟩, ht0 _ m_200, trivial⟩ hK hNW hP [] rfl  rfl hl.1 rfl (Nat.le_of_ble_eq_true rfl) d_Wi_bits_20 ⟨Nat.zero_le _, Nat.zero_le _⟩) ?_
        refine lv_if_eq (tgt := 33) hx hb d_Wi_bits_23 (by decide) (fun c_4 => ?_) (fun c_4 => ?_)
        · replace hf := if_t c_4 hf
          exact B_33 (b_Wi_bits_5 F size arr1 n) ih x2 x3 x4 ls hf (lv_sub hl [0, 1, 2, 3, 4] rfl)
        · replace hf := if_f c_4 hf
          refine lv_iload_n hx hb d_Wi_bits_26 rfl (lv_at hl 3 rfl) ?_
          refine lv_iconst (v := 1) hx hb d_Wi_bits_27 (by decide) ?_
          refine lv_iload hx hb d_Wi_bits_28 (lv_at hl 4 rfl) ?_
          refine lv_ishl hx hb d_Wi_bits_30 ?_
          refine lv_ior hx hb d_Wi_bits_31 ?_
          refine lv_topi (fun x3_6 e_x3_6 => ?_)
          replace hf := nm_eq e_x3_6 hf
          refine lv_istore_n (lv' := [(3, .int x3_6), (0, .ref a_p0), (1, .ref a_p1), (2, .int x2), (4, .int x4)]) hx hb d_Wi_bits_32 rfl hl (by decide) rfl (fun ls hl => ?_)
          exact B_33 (b_Wi_bits_5 F size arr1 n) ih x2 x3_6 x4 ls hf (lv_sub hl [1, 2, 3, 0, 4] rfl)
  rw [f_Wi_bits] at hf
  refine lv_iconst (v := 0) hx hb d_Wi_bits_0 (by decide) ?_
  refine lv_istore_n (lv' := [(3, .int 0), (0, .ref a_p0), (1, .ref a_p1), (2, .int p2)]) hx hb d_Wi_bits_1 rfl hl (by decide) rfl (fun ls hl => ?_)
  refine lv_iconst (v := 0) hx hb d_Wi_bits_2 (by decide) ?_
  refine lv_istore (lv' := [(4, .int 0), (3, .int 0), (0, .ref a_p0), (1, .ref a_p1), (2, .int p2)]) hx hb d_Wi_bits_3 hl (by decide) rfl (fun ls hl => ?_)
  exact B_5 F p2 0 0 ls hf (lv_sub hl [2, 3, 4, 1, 0] rfl)

/-! FermionMaps$Wiring.signsOf(I)I -/
def b_Wi_signsOf_29 (F : Nat) (k_4 : Int32 → Int32 → Int32 → Option (Int32)) (size : Int32) (back : Nat → Int32) (x1 : Int32) (x2 : Int32) (x3 : Int32) : Option (Int32) :=
  nm (x3 + 1 : Int32) fun x3_4 =>
  k_4 x1 x2 x3_4
def b_Wi_signsOf_4 (F : Nat) (size : Int32) (back : Nat → Int32) : Nat → Int32 → Int32 → Int32 → Option (Int32)
  | 0, _, _, _ => none
  | n + 1, x1, x2, x3 =>
    if size ≤ x3 then
      some (x2)
    else
      (f_FM_has F x1 x3).bind fun u_2 =>
      if u_2 = 0 then
        b_Wi_signsOf_29 F (b_Wi_signsOf_4 F size back n) size back x1 x2 x3
      else
        ckI x3 8 <|
        nm ((x2 ^^^ (back x3.toNatClampNeg)) : Int32) fun x2_6 =>
        b_Wi_signsOf_29 F (b_Wi_signsOf_4 F size back n) size back x1 x2_6 x3
def f_Wi_signsOf (F : Nat) (size : Int32) (back : Nat → Int32) (p1 : Int32) : Option (Int32) :=
  b_Wi_signsOf_4 F size back F p1 0 0
abbrev rm_Wi_signsOf : Room := { frames := 1, cells := 0, slots := 0, locals := 21 }
set_option maxHeartbeats 4000000 in
set_option maxRecDepth 100000 in
theorem c_Wi_signsOf (l : Launch) (dC : Nat → ClassId) (dI : Nat → Nat → Nat) (cI cJ : ClassId) (a_p0 a_back z_told z_rows z_spareBack z_left : Nat) (size : Int32) (kind : Int32) (back : Nat → Int32) (p1 : Int32) (F : Nat) (u : Int32) (hf : f_Wi_signsOf F size back p1 = some u) : Met l y_Wi_signsOf (Cond.code y_Wi_signsOf prog_4_method_8_code 4 (some .int) :: T0) rm_Wi_signsOf (va_Pc [.ref a_p0, .int p1] (Wr (dC, dI) [(a_p0, .inr (2, [.ref z_told, .ref z_rows, .ref a_back, .ref z_spareBack, .ref z_left, .int size, .int kind])), (a_back, .inl (cI, 8, .inl back))] [(cI, .int), (cJ, .long)])) (vp_Si (fun r => r = u)) 0 0 (fun _ => False) := by
  refine Met.ofW (cc := prog_4_method_8_code) (maxL := 4) (ret := (some .int)) (by decide) rfl ?_
  intro p e s m args below meth c s₁ B hml hv
  obtain ⟨rfl, hP, hK, hNW⟩ := hv
  have hx := B.exec
  have hb := B.bytes
  have hr := B.returns
  have hts := atoms_spec (ws := Cond.code y_Wi_signsOf prog_4_method_8_code 4 (some .int) :: T0) B.pre
  have ht0 : ∀ w ∈ T0, w.before ([.ref a_p0, .int p1] : List Value).toArray s = true := fun w h => hts w (List.mem_cons_of_mem _ h)
  have hown : s.vm.findClass "FermionMaps$Wiring" = some m.cls := findClass_of_methodNamed B.named
  have hlocks := B.notSynchronized
  have hl := lv_entry ([.ref a_p0, .int p1]) (n := 4) (Nat.le_of_ble_eq_true rfl)
  rw [lg_entry_eq]
  generalize (lg_sl ([.ref a_p0, .int p1]) ++ List.replicate (4 - (lg_sl ([.ref a_p0, .int p1])).length) Slot.unset).toArray = ls at hl ⊢
  have hl : lv_has ls 4 [(0, .ref a_p0), (1, .int p1)] := hl
  refine W.nameQ (fun Q hQ => ?_)
  have B_29 : ∀ (k_4 : Int32 → Int32 → Int32 → Option (Int32)) (hk_4 : ∀ (x1 : Int32) (x2 : Int32) (x3 : Int32) (ls : Array Slot), k_4 x1 x2 x3 = some u → lv_has ls 4 [(0, .ref a_p0), (1, .int x1), (2, .int x2), (3, .int x3)] → W p l e (headSpec (Cond.code y_Wi_signsOf prog_4_method_8_code 4 (some .int) :: T0) rm_Wi_signsOf).room s m ([.ref a_p0, .int p1] : List Value).toArray below meth c s.heap [] 0 0 Q (F0 m 4 ls [])), ∀ (x1 : Int32) (x2 : Int32) (x3 : Int32) (ls : Array Slot), b_Wi_signsOf_29 F k_4 size back x1 x2 x3 = some u → lv_has ls 4 [(0, .ref a_p0), (1, .int x1), (2, .int x2), (3, .int x3)] → W p l e (headSpec (Cond.code y_Wi_signsOf prog_4_method_8_code 4 (some .int) :: T0) rm_Wi_signsOf).room s m ([.ref a_p0, .int p1] : List Value).toArray below meth c s.heap [] 0 0 Q (F0 m 29 ls []) := by
    intro k_4 hk_4
    intro x1 x2 x3 ls hf hl
    rw [b_Wi_signsOf_29] at hf
    obtain ⟨x3_4, e_x3_4⟩ : ∃ y : Int32, y = x3 + 1 := ⟨_, rfl⟩
    replace hf := nm_eq e_x3_4 hf
    refine lv_iinc (v := x3_4) (lv' := [(3, .int x3_4), (0, .ref a_p0), (1, .int x1), (2, .int x2)]) hx hb d_Wi_signsOf_29 hl (k := 3) rfl (by rw [e_x3_4]; rfl) (by decide) rfl (fun ls hl => ?_)
    refine lv_goto (tgt := 4) hx hb d_Wi_signsOf_32 (by decide) ?_
    exact hk_4 x1 x2 x3_4 ls hf (lv_sub hl [1, 2, 3, 0] rfl)
  have B_4 : ∀ (n : Nat), ∀ (x1 : Int32) (x2 : Int32) (x3 : Int32) (ls : Array Slot), b_Wi_signsOf_4 F size back n x1 x2 x3 = some u → lv_has ls 4 [(0, .ref a_p0), (1, .int x1), (2, .int x2), (3, .int x3)] → W p l e (headSpec (Cond.code y_Wi_signsOf prog_4_method_8_code 4 (some .int) :: T0) rm_Wi_signsOf).room s m ([.ref a_p0, .int p1] : List Value).toArray below meth c s.heap [] 0 0 Q (F0 m 4 ls []) := by
    intro n
    induction n with
    | zero =>
      intro x1 x2 x3 ls hf hl
      exact no_fuel hf
    | succ n ih =>
      intro x1 x2 x3 ls hf hl
      rw [b_Wi_signsOf_4] at hf
      refine lv_iload_n hx hb d_Wi_signsOf_4 rfl (lv_at hl 3 rfl) ?_
      refine lv_aload_n hx hb d_Wi_signsOf_5 rfl (lv_at hl 0 rfl) ?_
      refine va_get (D := (dC, dI)) (ci := 2) (v := .int size) (C := "FermionMaps$Wiring") (T := F_Wi) (N := 7) hx hb ht0 i_Wi hown hK hP 0 rfl rfl 5 (by decide) (ht0 _ m_63) (fun _ h9 => h9) rfl d_Wi_signsOf_6 ?_
      refine lv_icmp_ge (tgt := 35) hx hb d_Wi_signsOf_9 (by decide) (fun c_1 => ?_) (fun c_1 => ?_)
      · replace hf := if_t c_1 hf
        refine lv_iload_n hx hb d_Wi_signsOf_35 rfl (lv_at hl 2 rfl) ?_
        have hu := Option.some.inj hf
        subst hu
        exact rt_i hQ rfl hx hb hr hlocks d_Wi_signsOf_36
      · replace hf := if_f c_1 hf
        refine lv_iload_n hx hb d_Wi_signsOf_12 rfl (lv_at hl 1 rfl) ?_
        refine lv_iload_n hx hb d_Wi_signsOf_13 rfl (lv_at hl 3 rfl) ?_
        obtain ⟨u_2, h_u_2, hf⟩ := bd hf
        refine rd_i (rdSN_run (As := [.int x1, .int x3]) (rest := []) ⟨hx, hb, hml, hown, ht0⟩ (c_FM_has l dC dI cI cJ x1 x3 F u_2 h_u_2) ⟨va_cnB (host := "FermionMaps") 2 ht0 (gC m_239) rfl rfl rfl (nw_Wi_45 hNW) (ht0 _ m_1) (by decide +kernel) ⟨Nat.le_of_ble_eq_true rfl, Nat.le_of_ble_eq_true rfl⟩, ht0 _ m_238, trivial⟩ hK hNW hP [] rfl  rfl hl.1 rfl (Nat.le_of_ble_eq_true rfl) d_Wi_signsOf_14 ⟨Nat.zero_le _, Nat.zero_le _⟩) ?_
        refine lv_if_eq (tgt := 29) hx hb d_Wi_signsOf_17 (by decide) (fun c_3 => ?_) (fun c_3 => ?_)
        · replace hf := if_t c_3 hf
          exact B_29 (b_Wi_signsOf_4 F size back n) ih x1 x2 x3 ls hf (lv_sub hl [0, 1, 2, 3] rfl)
        · replace hf := if_f c_3 hf
          refine lv_iload_n hx hb d_Wi_signsOf_20 rfl (lv_at hl 2 rfl) ?_
          refine lv_aload_n hx hb d_Wi_signsOf_21 rfl (lv_at hl 0 rfl) ?_
          refine va_get (D := (dC, dI)) (ci := 2) (v := .ref a_back) (C := "FermionMaps$Wiring") (T := F_Wi) (N := 7) hx hb ht0 i_Wi hown hK hP 0 rfl rfl 2 (by decide) (ht0 _ m_58) (fun _ h9 => h9) rfl d_Wi_signsOf_22 ?_
          refine lv_iload_n hx hb d_Wi_signsOf_25 rfl (lv_at hl 3 rfl) ?_
          obtain ⟨hi_5, hf⟩ := ckI_ok hf
          refine va_iald hx hb hK hP 1 0 rfl rfl hi_5 d_Wi_signsOf_26 ?_
          refine lv_ixor hx hb d_Wi_signsOf_27 ?_
          refine lv_topi (fun x2_6 e_x2_6 => ?_)
          replace hf := nm_eq e_x2_6 hf
          refine lv_istore_n (lv' := [(2, .int x2_6), (0, .ref a_p0), (1, .int x1), (3, .int x3)]) hx hb d_Wi_signsOf_28 rfl hl (by decide) rfl (fun ls hl => ?_)
          exact B_29 (b_Wi_signsOf_4 F size back n) ih x1 x2_6 x3 ls hf (lv_sub hl [1, 2, 0, 3] rfl)
  rw [f_Wi_signsOf] at hf
  refine lv_iconst (v := 0) hx hb d_Wi_signsOf_0 (by decide) ?_
  refine lv_istore_n (lv' := [(2, .int 0), (0, .ref a_p0), (1, .int p1)]) hx hb d_Wi_signsOf_1 rfl hl (by decide) rfl (fun ls hl => ?_)
  refine lv_iconst (v := 0) hx hb d_Wi_signsOf_2 (by decide) ?_
  refine lv_istore_n (lv' := [(3, .int 0), (2, .int 0), (0, .ref a_p0), (1, .int p1)]) hx hb d_Wi_signsOf_3 rfl hl (by decide) rfl (fun ls hl => ?_)
  exact B_4 F p1 0 0 ls hf (lv_sub hl [2, 3, 1, 0] rfl)
