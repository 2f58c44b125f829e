theorem d_FM_begin_0 : decode prog_1_method_2_code 0 = .ok (.iload_n 1, 1) := by decide +kernel
theorem d_FM_begin_1 : decode prog_1_method_2_code 1 = .ok (.iconst 1, 1) := by decide +kernel
theorem d_FM_begin_2 : decode prog_1_method_2_code 2 = .ok (.if_icmp .lt 9, 3) := by decide +kernel
theorem d_FM_begin_5 : decode prog_1_method_2_code 5 = .ok (.iload_n 1, 1) := by decide +kernel
theorem d_FM_begin_6 : decode prog_1_method_2_code 6 = .ok (.bipush 8, 2) := by decide +kernel
theorem d_FM_begin_8 : decode prog_1_method_2_code 8 = .ok (.if_icmp .le 5, 3) := by decide +kernel
theorem d_FM_begin_11 : decode prog_1_method_2_code 11 = .ok (.iconst 0, 1) := by decide +kernel
theorem d_FM_begin_12 : decode prog_1_method_2_code 12 = .ok (.ireturn, 1) := by decide +kernel
theorem d_FM_begin_13 : decode prog_1_method_2_code 13 = .ok (.aload_n 0, 1) := by decide +kernel
theorem d_FM_begin_14 : decode prog_1_method_2_code 14 = .ok (.getfield 10, 3) := by decide +kernel
theorem d_FM_begin_17 : decode prog_1_method_2_code 17 = .ok (.iconst 0, 1) := by decide +kernel
theorem d_FM_begin_18 : decode prog_1_method_2_code 18 = .ok (.putfield 34, 3) := by decide +kernel
theorem d_FM_begin_21 : decode prog_1_method_2_code 21 = .ok (.aload_n 0, 1) := by decide +kernel
theorem d_FM_begin_22 : decode prog_1_method_2_code 22 = .ok (.getfield 19, 3) := by decide +kernel
theorem d_FM_begin_25 : decode prog_1_method_2_code 25 = .ok (.iload_n 1, 1) := by decide +kernel
theorem d_FM_begin_26 : decode prog_1_method_2_code 26 = .ok (.invokevirtual 30, 3) := by decide +kernel
theorem d_FM_begin_29 : decode prog_1_method_2_code 29 = .ok (.aload_n 0, 1) := by decide +kernel
theorem d_FM_begin_30 : decode prog_1_method_2_code 30 = .ok (.getfield 26, 3) := by decide +kernel
theorem d_FM_begin_33 : decode prog_1_method_2_code 33 = .ok (.iconst 0, 1) := by decide +kernel
theorem d_FM_begin_34 : decode prog_1_method_2_code 34 = .ok (.putfield 38, 3) := by decide +kernel
theorem d_FM_begin_37 : decode prog_1_method_2_code 37 = .ok (.iconst 1, 1) := by decide +kernel
theorem d_FM_begin_38 : decode prog_1_method_2_code 38 = .ok (.ireturn, 1) := by decide +kernel
theorem d_FM_isSet_0 : decode prog_1_method_14_code 0 = .ok (.iload_n 1, 1) := by decide +kernel
theorem d_FM_isSet_1 : decode prog_1_method_14_code 1 = .ok (.ifCond .lt 20, 3) := by decide +kernel
theorem d_FM_isSet_4 : decode prog_1_method_14_code 4 = .ok (.iload_n 1, 1) := by decide +kernel
theorem d_FM_isSet_5 : decode prog_1_method_14_code 5 = .ok (.iconst 1, 1) := by decide +kernel
theorem d_FM_isSet_6 : decode prog_1_method_14_code 6 = .ok (.aload_n 0, 1) := by decide +kernel
theorem d_FM_isSet_7 : decode prog_1_method_14_code 7 = .ok (.getfield 19, 3) := by decide +kernel
theorem d_FM_isSet_10 : decode prog_1_method_14_code 10 = .ok (.getfield 53, 3) := by decide +kernel
theorem d_FM_isSet_13 : decode prog_1_method_14_code 13 = .ok (.ishl, 1) := by decide +kernel
theorem d_FM_isSet_14 : decode prog_1_method_14_code 14 = .ok (.if_icmp .ge 7, 3) := by decide +kernel
theorem d_FM_isSet_17 : decode prog_1_method_14_code 17 = .ok (.iconst 1, 1) := by decide +kernel
theorem d_FM_isSet_18 : decode prog_1_method_14_code 18 = .ok (.goto 4, 3) := by decide +kernel
theorem d_FM_isSet_21 : decode prog_1_method_14_code 21 = .ok (.iconst 0, 1) := by decide +kernel
theorem d_FM_isSet_22 : decode prog_1_method_14_code 22 = .ok (.ireturn, 1) := by decide +kernel
theorem d_FM_add_0 : decode prog_1_method_3_code 0 = .ok (.aload_n 0, 1) := by decide +kernel
theorem d_FM_add_1 : decode prog_1_method_3_code 1 = .ok (.iload_n 1, 1) := by decide +kernel
theorem d_FM_add_2 : decode prog_1_method_3_code 2 = .ok (.invokevirtual 42, 3) := by decide +kernel
theorem d_FM_add_5 : decode prog_1_method_3_code 5 = .ok (.ifCond .eq 18, 3) := by decide +kernel
theorem d_FM_add_8 : decode prog_1_method_3_code 8 = .ok (.aload_n 0, 1) := by decide +kernel
theorem d_FM_add_9 : decode prog_1_method_3_code 9 = .ok (.iload_n 2, 1) := by decide +kernel
theorem d_FM_add_10 : decode prog_1_method_3_code 10 = .ok (.invokevirtual 42, 3) := by decide +kernel
theorem d_FM_add_13 : decode prog_1_method_3_code 13 = .ok (.ifCond .eq 10, 3) := by decide +kernel
theorem d_FM_add_16 : decode prog_1_method_3_code 16 = .ok (.iload_n 3, 1) := by decide +kernel
theorem d_FM_add_17 : decode prog_1_method_3_code 17 = .ok (.invokestatic 46, 3) := by decide +kernel
theorem d_FM_add_20 : decode prog_1_method_3_code 20 = .ok (.ifCond .eq 5, 3) := by decide +kernel
theorem d_FM_add_23 : decode prog_1_method_3_code 23 = .ok (.iconst (-1), 1) := by decide +kernel
theorem d_FM_add_24 : decode prog_1_method_3_code 24 = .ok (.ireturn, 1) := by decide +kernel
theorem d_FM_add_25 : decode prog_1_method_3_code 25 = .ok (.aload_n 0, 1) := by decide +kernel
theorem d_FM_add_26 : decode prog_1_method_3_code 26 = .ok (.getfield 10, 3) := by decide +kernel
theorem d_FM_add_29 : decode prog_1_method_3_code 29 = .ok (.sipush 256, 3) := by decide +kernel
theorem d_FM_add_32 : decode prog_1_method_3_code 32 = .ok (.iload_n 1, 1) := by decide +kernel
theorem d_FM_add_33 : decode prog_1_method_3_code 33 = .ok (.imul, 1) := by decide +kernel
theorem d_FM_add_34 : decode prog_1_method_3_code 34 = .ok (.iload_n 2, 1) := by decide +kernel
theorem d_FM_add_35 : decode prog_1_method_3_code 35 = .ok (.iadd, 1) := by decide +kernel
theorem d_FM_add_36 : decode prog_1_method_3_code 36 = .ok (.iload_n 3, 1) := by decide +kernel
theorem d_FM_add_37 : decode prog_1_method_3_code 37 = .ok (.invokevirtual 49, 3) := by decide +kernel
theorem d_FM_add_40 : decode prog_1_method_3_code 40 = .ok (.ifCond .ne 5, 3) := by decide +kernel
theorem d_FM_add_43 : decode prog_1_method_3_code 43 = .ok (.iconst (-1), 1) := by decide +kernel
theorem d_FM_add_44 : decode prog_1_method_3_code 44 = .ok (.ireturn, 1) := by decide +kernel
theorem d_FM_add_45 : decode prog_1_method_3_code 45 = .ok (.aload_n 0, 1) := by decide +kernel
theorem d_FM_add_46 : decode prog_1_method_3_code 46 = .ok (.getfield 26, 3) := by decide +kernel
theorem d_FM_add_49 : decode prog_1_method_3_code 49 = .ok (.iconst 0, 1) := by decide +kernel
theorem d_FM_add_50 : decode prog_1_method_3_code 50 = .ok (.putfield 38, 3) := by decide +kernel
theorem d_FM_add_53 : decode prog_1_method_3_code 53 = .ok (.aload_n 0, 1) := by decide +kernel
theorem d_FM_add_54 : decode prog_1_method_3_code 54 = .ok (.getfield 10, 3) := by decide +kernel
theorem d_FM_add_57 : decode prog_1_method_3_code 57 = .ok (.getfield 34, 3) := by decide +kernel
theorem d_FM_add_60 : decode prog_1_method_3_code 60 = .ok (.ireturn, 1) := by decide +kernel
theorem d_FM_ladder_0 : decode prog_1_method_4_code 0 = .ok (.iload_n 1, 1) := by decide +kernel
theorem d_FM_ladder_1 : decode prog_1_method_4_code 1 = .ok (.ifCond .lt 14, 3) := by decide +kernel
theorem d_FM_ladder_4 : decode prog_1_method_4_code 4 = .ok (.iload_n 1, 1) := by decide +kernel
theorem d_FM_ladder_5 : decode prog_1_method_4_code 5 = .ok (.aload_n 0, 1) := by decide +kernel
theorem d_FM_ladder_6 : decode prog_1_method_4_code 6 = .ok (.getfield 19, 3) := by decide +kernel
theorem d_FM_ladder_9 : decode prog_1_method_4_code 9 = .ok (.getfield 53, 3) := by decide +kernel
theorem d_FM_ladder_12 : decode prog_1_method_4_code 12 = .ok (.if_icmp .lt 5, 3) := by decide +kernel
theorem d_FM_ladder_15 : decode prog_1_method_4_code 15 = .ok (.iconst (-1), 1) := by decide +kernel
theorem d_FM_ladder_16 : decode prog_1_method_4_code 16 = .ok (.ireturn, 1) := by decide +kernel
theorem d_FM_ladder_17 : decode prog_1_method_4_code 17 = .ok (.aload_n 0, 1) := by decide +kernel
theorem d_FM_ladder_18 : decode prog_1_method_4_code 18 = .ok (.getfield 10, 3) := by decide +kernel
theorem d_FM_ladder_21 : decode prog_1_method_4_code 21 = .ok (.iload_n 1, 1) := by decide +kernel
theorem d_FM_ladder_22 : decode prog_1_method_4_code 22 = .ok (.iload_n 2, 1) := by decide +kernel
theorem d_FM_ladder_23 : decode prog_1_method_4_code 23 = .ok (.iload_n 3, 1) := by decide +kernel
theorem d_FM_ladder_24 : decode prog_1_method_4_code 24 = .ok (.invokevirtual 56, 3) := by decide +kernel
theorem d_FM_ladder_27 : decode prog_1_method_4_code 27 = .ok (.ifCond .ne 5, 3) := by decide +kernel
theorem d_FM_ladder_30 : decode prog_1_method_4_code 30 = .ok (.iconst (-1), 1) := by decide +kernel
theorem d_FM_ladder_31 : decode prog_1_method_4_code 31 = .ok (.ireturn, 1) := by decide +kernel
theorem d_FM_ladder_32 : decode prog_1_method_4_code 32 = .ok (.aload_n 0, 1) := by decide +kernel
theorem d_FM_ladder_33 : decode prog_1_method_4_code 33 = .ok (.getfield 26, 3) := by decide +kernel
theorem d_FM_ladder_36 : decode prog_1_method_4_code 36 = .ok (.iconst 0, 1) := by decide +kernel
theorem d_FM_ladder_37 : decode prog_1_method_4_code 37 = .ok (.putfield 38, 3) := by decide +kernel
theorem d_FM_ladder_40 : decode prog_1_method_4_code 40 = .ok (.aload_n 0, 1) := by decide +kernel
theorem d_FM_ladder_41 : decode prog_1_method_4_code 41 = .ok (.getfield 10, 3) := by decide +kernel
theorem d_FM_ladder_44 : decode prog_1_method_4_code 44 = .ok (.getfield 34, 3) := by decide +kernel
theorem d_FM_ladder_47 : decode prog_1_method_4_code 47 = .ok (.ireturn, 1) := by decide +kernel
theorem d_FM_clear_0 : decode prog_1_method_5_code 0 = .ok (.aload_n 0, 1) := by decide +kernel
theorem d_FM_clear_1 : decode prog_1_method_5_code 1 = .ok (.getfield 10, 3) := by decide +kernel
theorem d_FM_clear_4 : decode prog_1_method_5_code 4 = .ok (.iconst 0, 1) := by decide +kernel
theorem d_FM_clear_5 : decode prog_1_method_5_code 5 = .ok (.putfield 34, 3) := by decide +kernel
theorem d_FM_clear_8 : decode prog_1_method_5_code 8 = .ok (.aload_n 0, 1) := by decide +kernel
theorem d_FM_clear_9 : decode prog_1_method_5_code 9 = .ok (.getfield 26, 3) := by decide +kernel
theorem d_FM_clear_12 : decode prog_1_method_5_code 12 = .ok (.iconst 0, 1) := by decide +kernel
theorem d_FM_clear_13 : decode prog_1_method_5_code 13 = .ok (.putfield 38, 3) := by decide +kernel
theorem d_FM_clear_16 : decode prog_1_method_5_code 16 = .ok (.return_, 1) := by decide +kernel
theorem d_FM_way_0 : decode prog_1_method_8_code 0 = .ok (.iload_n 1, 1) := by decide +kernel
theorem d_FM_way_1 : decode prog_1_method_8_code 1 = .ok (.ifCond .lt 19, 3) := by decide +kernel
theorem d_FM_way_4 : decode prog_1_method_8_code 4 = .ok (.iload_n 1, 1) := by decide +kernel
theorem d_FM_way_5 : decode prog_1_method_8_code 5 = .ok (.iconst 3, 1) := by decide +kernel
theorem d_FM_way_6 : decode prog_1_method_8_code 6 = .ok (.if_icmp .gt 14, 3) := by decide +kernel
theorem d_FM_way_9 : decode prog_1_method_8_code 9 = .ok (.aload_n 0, 1) := by decide +kernel
theorem d_FM_way_10 : decode prog_1_method_8_code 10 = .ok (.getfield 19, 3) := by decide +kernel
theorem d_FM_way_13 : decode prog_1_method_8_code 13 = .ok (.iload_n 1, 1) := by decide +kernel
theorem d_FM_way_14 : decode prog_1_method_8_code 14 = .ok (.invokevirtual 84, 3) := by decide +kernel
theorem d_FM_way_17 : decode prog_1_method_8_code 17 = .ok (.ifCond .ne 5, 3) := by decide +kernel
theorem d_FM_way_20 : decode prog_1_method_8_code 20 = .ok (.iconst 0, 1) := by decide +kernel
theorem d_FM_way_21 : decode prog_1_method_8_code 21 = .ok (.ireturn, 1) := by decide +kernel
theorem d_FM_way_22 : decode prog_1_method_8_code 22 = .ok (.aload_n 0, 1) := by decide +kernel
theorem d_FM_way_23 : decode prog_1_method_8_code 23 = .ok (.getfield 26, 3) := by decide +kernel
theorem d_FM_way_26 : decode prog_1_method_8_code 26 = .ok (.iconst 0, 1) := by decide +kernel
theorem d_FM_way_27 : decode prog_1_method_8_code 27 = .ok (.putfield 38, 3) := by decide +kernel
theorem d_FM_way_30 : decode prog_1_method_8_code 30 = .ok (.iconst 1, 1) := by decide +kernel
theorem d_FM_way_31 : decode prog_1_method_8_code 31 = .ok (.ireturn, 1) := by decide +kernel
theorem d_FM_row_0 : decode prog_1_method_9_code 0 = .ok (.iload_n 1, 1) := by decide +kernel
theorem d_FM_row_1 : decode prog_1_method_9_code 1 = .ok (.ifCond .lt 33, 3) := by decide +kernel
theorem d_FM_row_4 : decode prog_1_method_9_code 4 = .ok (.iload_n 1, 1) := by decide +kernel
theorem d_FM_row_5 : decode prog_1_method_9_code 5 = .ok (.aload_n 0, 1) := by decide +kernel
theorem d_FM_row_6 : decode prog_1_method_9_code 6 = .ok (.getfield 19, 3) := by decide +kernel
theorem d_FM_row_9 : decode prog_1_method_9_code 9 = .ok (.getfield 53, 3) := by decide +kernel
theorem d_FM_row_12 : decode prog_1_method_9_code 12 = .ok (.if_icmp .ge 22, 3) := by decide +kernel
theorem d_FM_row_15 : decode prog_1_method_9_code 15 = .ok (.aload_n 0, 1) := by decide +kernel
theorem d_FM_row_16 : decode prog_1_method_9_code 16 = .ok (.iload_n 2, 1) := by decide +kernel
theorem d_FM_row_17 : decode prog_1_method_9_code 17 = .ok (.invokevirtual 42, 3) := by decide +kernel
theorem d_FM_row_20 : decode prog_1_method_9_code 20 = .ok (.ifCond .eq 14, 3) := by decide +kernel
theorem d_FM_row_23 : decode prog_1_method_9_code 23 = .ok (.aload_n 0, 1) := by decide +kernel
theorem d_FM_row_24 : decode prog_1_method_9_code 24 = .ok (.getfield 19, 3) := by decide +kernel
theorem d_FM_row_27 : decode prog_1_method_9_code 27 = .ok (.getfield 87, 3) := by decide +kernel
theorem d_FM_row_30 : decode prog_1_method_9_code 30 = .ok (.iconst 3, 1) := by decide +kernel
theorem d_FM_row_31 : decode prog_1_method_9_code 31 = .ok (.if_icmp .ne 5, 3) := by decide +kernel
theorem d_FM_row_34 : decode prog_1_method_9_code 34 = .ok (.iconst 0, 1) := by decide +kernel
theorem d_FM_row_35 : decode prog_1_method_9_code 35 = .ok (.ireturn, 1) := by decide +kernel
theorem d_FM_row_36 : decode prog_1_method_9_code 36 = .ok (.aload_n 0, 1) := by decide +kernel
theorem d_FM_row_37 : decode prog_1_method_9_code 37 = .ok (.getfield 19, 3) := by decide +kernel
theorem d_FM_row_40 : decode prog_1_method_9_code 40 = .ok (.getfield 90, 3) := by decide +kernel
theorem d_FM_row_43 : decode prog_1_method_9_code 43 = .ok (.iload_n 1, 1) := by decide +kernel
theorem d_FM_row_44 : decode prog_1_method_9_code 44 = .ok (.iload_n 2, 1) := by decide +kernel
theorem d_FM_row_45 : decode prog_1_method_9_code 45 = .ok (.iastore, 1) := by decide +kernel
theorem d_FM_row_46 : decode prog_1_method_9_code 46 = .ok (.iconst 1, 1) := by decide +kernel
theorem d_FM_row_47 : decode prog_1_method_9_code 47 = .ok (.ireturn, 1) := by decide +kernel
theorem d_FM_written_0 : decode prog_1_method_10_code 0 = .ok (.aload_n 0, 1) := by decide +kernel
theorem d_FM_written_1 : decode prog_1_method_10_code 1 = .ok (.iload_n 1, 1) := by decide +kernel
theorem d_FM_written_2 : decode prog_1_method_10_code 2 = .ok (.invokevirtual 42, 3) := by decide +kernel
theorem d_FM_written_5 : decode prog_1_method_10_code 5 = .ok (.ifCond .eq 21, 3) := by decide +kernel
theorem d_FM_written_8 : decode prog_1_method_10_code 8 = .ok (.aload_n 0, 1) := by decide +kernel
theorem d_FM_written_9 : decode prog_1_method_10_code 9 = .ok (.getfield 19, 3) := by decide +kernel
theorem d_FM_written_12 : decode prog_1_method_10_code 12 = .ok (.aload_n 0, 1) := by decide +kernel
theorem d_FM_written_13 : decode prog_1_method_10_code 13 = .ok (.getfield 19, 3) := by decide +kernel
theorem d_FM_written_16 : decode prog_1_method_10_code 16 = .ok (.getfield 93, 3) := by decide +kernel
theorem d_FM_written_19 : decode prog_1_method_10_code 19 = .ok (.iload_n 1, 1) := by decide +kernel
theorem d_FM_written_20 : decode prog_1_method_10_code 20 = .ok (.invokevirtual 96, 3) := by decide +kernel
theorem d_FM_written_23 : decode prog_1_method_10_code 23 = .ok (.goto 4, 3) := by decide +kernel
theorem d_FM_written_26 : decode prog_1_method_10_code 26 = .ok (.iconst (-1), 1) := by decide +kernel
theorem d_FM_written_27 : decode prog_1_method_10_code 27 = .ok (.ireturn, 1) := by decide +kernel
theorem d_FM_read_0 : decode prog_1_method_11_code 0 = .ok (.aload_n 0, 1) := by decide +kernel
theorem d_FM_read_1 : decode prog_1_method_11_code 1 = .ok (.iload_n 1, 1) := by decide +kernel
theorem d_FM_read_2 : decode prog_1_method_11_code 2 = .ok (.invokevirtual 42, 3) := by decide +kernel
theorem d_FM_read_5 : decode prog_1_method_11_code 5 = .ok (.ifCond .eq 21, 3) := by decide +kernel
theorem d_FM_read_8 : decode prog_1_method_11_code 8 = .ok (.aload_n 0, 1) := by decide +kernel
theorem d_FM_read_9 : decode prog_1_method_11_code 9 = .ok (.getfield 19, 3) := by decide +kernel
theorem d_FM_read_12 : decode prog_1_method_11_code 12 = .ok (.aload_n 0, 1) := by decide +kernel
theorem d_FM_read_13 : decode prog_1_method_11_code 13 = .ok (.getfield 19, 3) := by decide +kernel
theorem d_FM_read_16 : decode prog_1_method_11_code 16 = .ok (.getfield 100, 3) := by decide +kernel
theorem d_FM_read_19 : decode prog_1_method_11_code 19 = .ok (.iload_n 1, 1) := by decide +kernel
theorem d_FM_read_20 : decode prog_1_method_11_code 20 = .ok (.invokevirtual 96, 3) := by decide +kernel
theorem d_FM_read_23 : decode prog_1_method_11_code 23 = .ok (.goto 4, 3) := by decide +kernel
theorem d_FM_read_26 : decode prog_1_method_11_code 26 = .ok (.iconst (-1), 1) := by decide +kernel
theorem d_FM_read_27 : decode prog_1_method_11_code 27 = .ok (.ireturn, 1) := by decide +kernel
theorem d_FM_total_0 : decode prog_1_method_13_code 0 = .ok (.iload_n 1, 1) := by decide +kernel
theorem d_FM_total_1 : decode prog_1_method_13_code 1 = .ok (.tableswitch 98 0 4 #[35, 43, 51, 59, 82], 35) := by decide +kernel
theorem d_FM_total_36 : decode prog_1_method_13_code 36 = .ok (.aload_n 0, 1) := by decide +kernel
theorem d_FM_total_37 : decode prog_1_method_13_code 37 = .ok (.getfield 19, 3) := by decide +kernel
theorem d_FM_total_40 : decode prog_1_method_13_code 40 = .ok (.getfield 53, 3) := by decide +kernel
theorem d_FM_total_43 : decode prog_1_method_13_code 43 = .ok (.ireturn, 1) := by decide +kernel
theorem d_FM_total_44 : decode prog_1_method_13_code 44 = .ok (.aload_n 0, 1) := by decide +kernel
theorem d_FM_total_45 : decode prog_1_method_13_code 45 = .ok (.getfield 10, 3) := by decide +kernel
theorem d_FM_total_48 : decode prog_1_method_13_code 48 = .ok (.getfield 34, 3) := by decide +kernel
theorem d_FM_total_51 : decode prog_1_method_13_code 51 = .ok (.ireturn, 1) := by decide +kernel
theorem d_FM_total_52 : decode prog_1_method_13_code 52 = .ok (.aload_n 0, 1) := by decide +kernel
theorem d_FM_total_53 : decode prog_1_method_13_code 53 = .ok (.getfield 19, 3) := by decide +kernel
theorem d_FM_total_56 : decode prog_1_method_13_code 56 = .ok (.getfield 87, 3) := by decide +kernel
theorem d_FM_total_59 : decode prog_1_method_13_code 59 = .ok (.ireturn, 1) := by decide +kernel
theorem d_FM_total_60 : decode prog_1_method_13_code 60 = .ok (.aload_n 0, 1) := by decide +kernel
theorem d_FM_total_61 : decode prog_1_method_13_code 61 = .ok (.getfield 26, 3) := by decide +kernel
theorem d_FM_total_64 : decode prog_1_method_13_code 64 = .ok (.aload_n 0, 1) := by decide +kernel
theorem d_FM_total_65 : decode prog_1_method_13_code 65 = .ok (.getfield 10, 3) := by decide +kernel
theorem d_FM_total_68 : decode prog_1_method_13_code 68 = .ok (.aload_n 0, 1) := by decide +kernel
theorem d_FM_total_69 : decode prog_1_method_13_code 69 = .ok (.getfield 19, 3) := by decide +kernel
theorem d_FM_total_72 : decode prog_1_method_13_code 72 = .ok (.invokevirtual 103, 3) := by decide +kernel
theorem d_FM_total_75 : decode prog_1_method_13_code 75 = .ok (.aload_n 0, 1) := by decide +kernel
theorem d_FM_total_76 : decode prog_1_method_13_code 76 = .ok (.getfield 26, 3) := by decide +kernel
theorem d_FM_total_79 : decode prog_1_method_13_code 79 = .ok (.getfield 129, 3) := by decide +kernel
theorem d_FM_total_82 : decode prog_1_method_13_code 82 = .ok (.ireturn, 1) := by decide +kernel
theorem d_FM_total_83 : decode prog_1_method_13_code 83 = .ok (.aload_n 0, 1) := by decide +kernel
theorem d_FM_total_84 : decode prog_1_method_13_code 84 = .ok (.getfield 10, 3) := by decide +kernel
theorem d_FM_total_87 : decode prog_1_method_13_code 87 = .ok (.invokevirtual 132, 3) := by decide +kernel
theorem d_FM_total_90 : decode prog_1_method_13_code 90 = .ok (.ifCond .eq 7, 3) := by decide +kernel
theorem d_FM_total_93 : decode prog_1_method_13_code 93 = .ok (.iconst 1, 1) := by decide +kernel
theorem d_FM_total_94 : decode prog_1_method_13_code 94 = .ok (.goto 4, 3) := by decide +kernel
theorem d_FM_total_97 : decode prog_1_method_13_code 97 = .ok (.iconst 0, 1) := by decide +kernel
theorem d_FM_total_98 : decode prog_1_method_13_code 98 = .ok (.ireturn, 1) := by decide +kernel
theorem d_FM_total_99 : decode prog_1_method_13_code 99 = .ok (.iconst (-1), 1) := by decide +kernel
theorem d_FM_total_100 : decode prog_1_method_13_code 100 = .ok (.ireturn, 1) := by decide +kernel
/-! FermionMaps.begin(I)Z -/
def f_FM_begin (F : Nat) (sum_count : Int32) (wiring_size : Int32) (wiring_kind : Int32) (wiring_told : Nat → Int32) (wiring_rows : Nat → Int32) (wiring_back : Nat → Int32) (picture_drawn : Int32) (p1 : Int32) : Option (Int32 × Int32 × Int32 × Int32 × (Nat → Int32) × (Nat → Int32) × (Nat → Int32) × Int32) :=
  if p1 < 1 then
    some (0, sum_count, wiring_size, wiring_kind, wiring_told, wiring_rows, wiring_back, picture_drawn)
  else
    if p1 ≤ 8 then
      (f_Wi_reset F wiring_size wiring_kind wiring_told wiring_rows wiring_back p1).bind fun u_3 =>
      some (1, 0, u_3.1, u_3.2.1, u_3.2.2.1, u_3.2.2.2.1, u_3.2.2.2.2, 0)
    else
      some (0, sum_count, wiring_size, wiring_kind, wiring_told, wiring_rows, wiring_back, picture_drawn)
abbrev rm_FM_begin : Room := { frames := 1, cells := 0, slots := 0, locals := 22 }
set_option maxHeartbeats 4000000 in
set_option maxRecDepth 100000 in
theorem c_FM_begin (l : Launch) (dC : Nat → ClassId) (dI : Nat → Nat → Nat) (cI cJ : ClassId) (a_p0 a_sum a_wiring a_wiring_told a_wiring_rows a_wiring_back a_picture z_sum_keys z_sum_numbers z_sum_spareKeys z_sum_spareNumbers z_wiring_spareBack z_wiring_left z_picture_flipsOf z_picture_termsAt z_picture_numbers z_picture_spread : Nat) (sz : Nat) (sum_count : Int32) (wiring_size : Int32) (wiring_kind : Int32) (wiring_told : Nat → Int32) (wiring_rows : Nat → Int32) (wiring_back : Nat → Int32) (picture_drawn : Int32) (picture_held : Int32) (picture_terms : Int32) (picture_widest : Int32) (picture_halvings : Int32) (picture_foundSigns : Int32) (p1 : Int32) (F : Nat) (u : Int32 × Int32 × Int32 × Int32 × (Nat → Int32) × (Nat → Int32) × (Nat → Int32) × Int32) (hf : f_FM_begin F sum_count wiring_size wiring_kind wiring_told wiring_rows wiring_back picture_drawn p1 = some u) : Met l y_FM_begin (Cond.code y_FM_begin prog_1_method_2_code 2 (some .boolean) :: T0) rm_FM_begin (va_Pc [.ref a_p0, .int p1] (Ww (dC, dI) [(a_p0, .inr (3, [.ref a_sum, .ref a_wiring, .ref a_picture])), (a_sum, .inr (1, [.ref z_sum_keys, .ref z_sum_numbers, .ref z_sum_spareKeys, .ref z_sum_spareNumbers, .int sum_count])), (a_wiring, .inr (2, [.ref a_wiring_told, .ref a_wiring_rows, .ref a_wiring_back, .ref z_wiring_spareBack, .ref z_wiring_left, .int wiring_size, .int wiring_kind])), (a_wiring_told, .inl (cI, 8, .inl wiring_told)), (a_wiring_rows, .inl (cI, 8, .inl wiring_rows)), (a_wiring_back, .inl (cI, 8, .inl wiring_back)), (a_picture, .inr (0, [.ref z_picture_flipsOf, .ref z_picture_termsAt, .ref z_picture_numbers, .ref z_picture_spread, .int picture_drawn, .int picture_held, .int picture_terms, .int picture_widest, .int picture_halvings, .int picture_foundSigns]))] [(cI, .int), (cJ, .long)] sz)) (va_Qi (fun r (_ : Unit) => r = u.1) (Bw (dC, dI) [(cI, .int), (cJ, .long)] (va_A [(a_p0, .inr (3, [.ref a_sum, .ref a_wiring, .ref a_picture])), (a_sum, .inr (1, [.ref z_sum_keys, .ref z_sum_numbers, .ref z_sum_spareKeys, .ref z_sum_spareNumbers, .int sum_count])), (a_wiring, .inr (2, [.ref a_wiring_told, .ref a_wiring_rows, .ref a_wiring_back, .ref z_wiring_spareBack, .ref z_wiring_left, .int wiring_size, .int wiring_kind])), (a_wiring_told, .inl (cI, 8, .inl wiring_told)), (a_wiring_rows, .inl (cI, 8, .inl wiring_rows)), (a_wiring_back, .inl (cI, 8, .inl wiring_back)), (a_picture, .inr (0, [.ref z_picture_flipsOf, .ref z_picture_termsAt, .ref z_picture_numbers, .ref z_picture_spread, .int picture_drawn, .int picture_held, .int picture_terms, .int picture_widest, .int picture_halvings, .int picture_foundSigns]))] sz) (fun w1 => w1 = [(a_p0, .inr (3, [.ref a_sum, .ref a_wiring, .ref a_picture])), (a_sum, .inr (1, [.ref z_sum_keys, .ref z_sum_numbers, .ref z_sum_spareKeys, .ref z_sum_spareNumbers, .int u.2.1])), (a_wiring, .inr (2, [.ref a_wiring_told, .ref a_wiring_rows, .ref a_wiring_back, .ref z_wiring_spareBack, .ref z_wiring_left, .int u.2.2.1, .int u.2.2.2.1])), (a_wiring_told, .inl (cI, 8, .inl u.2.2.2.2.1)), (a_wiring_rows, .inl (cI, 8, .inl u.2.2.2.2.2.1)), (a_wiring_back, .inl (cI, 8, .inl u.2.2.2.2.2.2.1)), (a_picture, .inr (0, [.ref z_picture_flipsOf, .ref z_picture_termsAt, .ref z_picture_numbers, .ref z_picture_spread, .int u.2.2.2.2.2.2.2, .int picture_held, .int picture_terms, .int picture_widest, .int picture_halvings, .int picture_foundSigns]))])) (va_A [(a_p0, .inr (3, [.ref a_sum, .ref a_wiring, .ref a_picture])), (a_sum, .inr (1, [.ref z_sum_keys, .ref z_sum_numbers, .ref z_sum_spareKeys, .ref z_sum_spareNumbers, .int sum_count])), (a_wiring, .inr (2, [.ref a_wiring_told, .ref a_wiring_rows, .ref a_wiring_back, .ref z_wiring_spareBack, .ref z_wiring_left, .int wiring_size, .int wiring_kind])), (a_wiring_told, .inl (cI, 8, .inl wiring_told)), (a_wiring_rows, .inl (cI, 8, .inl wiring_rows)), (a_wiring_back, .inl (cI, 8, .inl wiring_back)), (a_picture, .inr (0, [.ref z_picture_flipsOf, .ref z_picture_termsAt, .ref z_picture_numbers, .ref z_picture_spread, .int picture_drawn, .int picture_held, .int picture_terms, .int picture_widest, .int picture_halvings, .int picture_foundSigns]))] sz)) 0 0 (va_A [(a_p0, .inr (3, [.ref a_sum, .ref a_wiring, .ref a_picture])), (a_sum, .inr (1, [.ref z_sum_keys, .ref z_sum_numbers, .ref z_sum_spareKeys, .ref z_sum_spareNumbers, .int sum_count])), (a_wiring, .inr (2, [.ref a_wiring_told, .ref a_wiring_rows, .ref a_wiring_back, .ref z_wiring_spareBack, .ref z_wiring_left, .int wiring_size, .int wiring_kind])), (a_wiring_told, .inl (cI, 8, .inl wiring_told)), (a_wiring_rows, .inl (cI, 8, .inl wiring_rows)), (a_wiring_back, .inl (cI, 8, .inl wiring_back)), (a_picture, .inr (0, [.ref z_picture_flipsOf, .ref z_picture_termsAt, .ref z_picture_numbers, .ref z_picture_spread, .int picture_drawn, .int picture_held, .int picture_terms, .int picture_widest, .int picture_halvings, .int picture_foundSigns]))] sz) := by
  refine Met.ofW (cc := prog_1_method_2_code) (maxL := 2) (ret := (some .boolean)) (by decide) rfl ?_
  intro p e s m args below meth c s₁ B hml hv
  obtain ⟨rfl, hsz, hP, hK, hD0, hNW⟩ := hv
  have hx := B.exec
  have hb := B.bytes
  have hr := B.returns
  have hts := atoms_spec (ws := Cond.code y_FM_begin prog_1_method_2_code 2 (some .boolean) :: T0) B.pre
  have ht0 : ∀ w ∈ T0, w.before ([.ref a_p0, .int p1] : List Value).toArray s = true := fun w h => hts w (List.mem_cons_of_mem _ h)
  have hown : s.vm.findClass "FermionMaps" = some m.cls := findClass_of_methodNamed B.named
  have hlocks := B.notSynchronized
  subst hsz
  have hD := hD0.self (sz := s.heap.size)
  generalize hAe : va_A [(a_p0, .inr (3, [.ref a_sum, .ref a_wiring, .ref a_picture])), (a_sum, .inr (1, [.ref z_sum_keys, .ref z_sum_numbers, .ref z_sum_spareKeys, .ref z_sum_spareNumbers, .int sum_count])), (a_wiring, .inr (2, [.ref a_wiring_told, .ref a_wiring_rows, .ref a_wiring_back, .ref z_wiring_spareBack, .ref z_wiring_left, .int wiring_size, .int wiring_kind])), (a_wiring_told, .inl (cI, 8, .inl wiring_told)), (a_wiring_rows, .inl (cI, 8, .inl wiring_rows)), (a_wiring_back, .inl (cI, 8, .inl wiring_back)), (a_picture, .inr (0, [.ref z_picture_flipsOf, .ref z_picture_termsAt, .ref z_picture_numbers, .ref z_picture_spread, .int picture_drawn, .int picture_held, .int picture_terms, .int picture_widest, .int picture_halvings, .int picture_foundSigns]))] s.heap.size = A at hD ⊢
  have hA : ∀ q : Nat, s.heap.size ≤ q → A q := fun q h => by rw [← hAe]; exact Or.inr h
  have hS : va_S A s.heap s.heap [] := va_S.rf
  have hl := lv_entry ([.ref a_p0, .int p1]) (n := 2) (Nat.le_of_ble_eq_true rfl)
  rw [lg_entry_eq]
  generalize (lg_sl ([.ref a_p0, .int p1]) ++ List.replicate (2 - (lg_sl ([.ref a_p0, .int p1])).length) Slot.unset).toArray = ls at hl ⊢
  have hl : lv_has ls 2 [(0, .ref a_p0), (1, .int p1)] := hl
  refine W.nameQ (fun Q hQ => ?_)
  rw [f_FM_begin] at hf
  refine lv_iload_n hx hb d_FM_begin_0 rfl (lv_at hl 1 rfl) ?_
  refine lv_iconst (v := 1) hx hb d_FM_begin_1 (by decide) ?_
  refine lv_icmp_lt (tgt := 11) hx hb d_FM_begin_2 (by decide) (fun c_1 => ?_) (fun c_1 => ?_)
  · replace hf := if_t c_1 hf
    refine lv_iconst (v := 0) hx hb d_FM_begin_11 (by decide) ?_
    have hu := Option.some.inj hf
    subst hu
    exact rw_z hQ rfl rfl rfl hP hD hK hS hx hb hr hlocks d_FM_begin_12
  · replace hf := if_f c_1 hf
    refine lv_iload_n hx hb d_FM_begin_5 rfl (lv_at hl 1 rfl) ?_
    refine lv_bipush (v := 8) hx hb d_FM_begin_6 (by decide) ?_
    refine lv_icmp_le (tgt := 13) hx hb d_FM_begin_8 (by decide) (fun c_2 => ?_) (fun c_2 => ?_)
    · replace hf := if_t c_2 hf
      refine lv_aload_n hx hb d_FM_begin_13 rfl (lv_at hl 0 rfl) ?_
      refine va_get (D := (dC, dI)) (ci := 3) (v := .ref a_sum) (C := "FermionMaps") (T := F_FM) (N := 3) hx hb ht0 i_FM hown hK hP 0 rfl rfl 0 (by decide) (ht0 _ m_131) (fun _ h9 => h9) rfl d_FM_begin_14 ?_
      refine lv_iconst (v := 0) hx hb d_FM_begin_17 (by decide) ?_
      refine va_put (D := (dC, dI)) (ci := 1) (v := .int 0) (ty := .int) (C := "FermionMaps$Sum") (T := F_Su) (N := 5) hx hb ht0 i_Su t_Su t_Su_ok n_Su hown hK hP hD hS 1 rfl rfl 4 (by decide) (ht0 _ m_33) (fun _ h9 => h9) rfl (by decide +kernel) rfl rfl (Nat.le_of_ble_eq_true rfl) d_FM_begin_18 (fun H locs hP hD hS => ?_)
      have hP : va_P (dC, dI) cls [(a_p0, .inr (3, [.ref a_sum, .ref a_wiring, .ref a_picture])), (a_sum, .inr (1, [.ref z_sum_keys, .ref z_sum_numbers, .ref z_sum_spareKeys, .ref z_sum_spareNumbers, .int 0])), (a_wiring, .inr (2, [.ref a_wiring_told, .ref a_wiring_rows, .ref a_wiring_back, .ref z_wiring_spareBack, .ref z_wiring_left, .int wiring_size, .int wiring_kind])), (a_wiring_told, .inl (cI, 8, .inl wiring_told)), (a_wiring_rows, .inl (cI, 8, .inl wiring_rows)), (a_wiring_back, .inl (cI, 8, .inl wiring_back)), (a_picture, .inr (0, [.ref z_picture_flipsOf, .ref z_picture_termsAt, .ref z_picture_numbers, .ref z_picture_spread, .int picture_drawn, .int picture_held, .int picture_terms, .int picture_widest, .int picture_halvings, .int picture_foundSigns]))] H := hP
      have hD : va_D A [(a_p0, .inr (3, [.ref a_sum, .ref a_wiring, .ref a_picture])), (a_sum, .inr (1, [.ref z_sum_keys, .ref z_sum_numbers, .ref z_sum_spareKeys, .ref z_sum_spareNumbers, .int 0])), (a_wiring, .inr (2, [.ref a_wiring_told, .ref a_wiring_rows, .ref a_wiring_back, .ref z_wiring_spareBack, .ref z_wiring_left, .int wiring_size, .int wiring_kind])), (a_wiring_told, .inl (cI, 8, .inl wiring_told)), (a_wiring_rows, .inl (cI, 8, .inl wiring_rows)), (a_wiring_back, .inl (cI, 8, .inl wiring_back)), (a_picture, .inr (0, [.ref z_picture_flipsOf, .ref z_picture_termsAt, .ref z_picture_numbers, .ref z_picture_spread, .int picture_drawn, .int picture_held, .int picture_terms, .int picture_widest, .int picture_halvings, .int picture_foundSigns]))] := hD
      refine lv_aload_n hx hb d_FM_begin_21 rfl (lv_at hl 0 rfl) ?_
      refine va_get (D := (dC, dI)) (ci := 3) (v := .ref a_wiring) (C := "FermionMaps") (T := F_FM) (N := 3) hx hb ht0 i_FM hown hK hP 0 rfl rfl 1 (by decide) (ht0 _ m_132) (fun _ h9 => h9) rfl d_FM_begin_22 ?_
      refine lv_iload_n hx hb d_FM_begin_25 rfl (lv_at hl 1 rfl) ?_
      obtain ⟨u_3, h_u_3, hf⟩ := bd hf
      refine wr_v (wr := [(a_p0, .inr (3, [.ref a_sum, .ref a_wiring, .ref a_picture])), (a_sum, .inr (1, [.ref z_sum_keys, .ref z_sum_numbers, .ref z_sum_spareKeys, .ref z_sum_spareNumbers, .int 0])), (a_picture, .inr (0, [.ref z_picture_flipsOf, .ref z_picture_termsAt, .ref z_picture_numbers, .ref z_picture_spread, .int picture_drawn, .int picture_held, .int picture_terms, .int picture_widest, .int picture_halvings, .int picture_foundSigns]))]) (wrV_run (As := [.int p1]) (rest := []) ⟨hx, hb, hml, hown, ht0⟩ (c_Wi_reset l dC dI cI cJ a_wiring a_wiring_told a_wiring_rows a_wiring_back z_wiring_spareBack z_wiring_left H.size wiring_size wiring_kind wiring_told wiring_rows wiring_back p1 F u_3 h_u_3) (cwV 1 ht0 (gV m_127 m_128 m_129 m_3 m_130) rfl rfl rfl (by decide +kernel) ⟨Nat.le_of_ble_eq_true rfl, Nat.le_of_ble_eq_true rfl⟩) hK hNW hP hD [2, 3, 4, 5] rfl rfl (by decide) (ci := 2) (q0 := 2) rfl rfl rfl hl.1 rfl (Nat.le_of_ble_eq_true rfl) d_FM_begin_26 ⟨Nat.zero_le _, Nat.zero_le _⟩) hP hD hS hA [2, 3, 4, 5] [0, 1, 6] rfl rfl (by decide) (by decide) (fun w1 H locs hw hP hD hS => ?_)
      obtain rfl := hw
      have hP : va_P (dC, dI) cls [(a_p0, .inr (3, [.ref a_sum, .ref a_wiring, .ref a_picture])), (a_sum, .inr (1, [.ref z_sum_keys, .ref z_sum_numbers, .ref z_sum_spareKeys, .ref z_sum_spareNumbers, .int 0])), (a_wiring, .inr (2, [.ref a_wiring_told, .ref a_wiring_rows, .ref a_wiring_back, .ref z_wiring_spareBack, .ref z_wiring_left, .int u_3.1, .int u_3.2.1])), (a_wiring_told, .inl (cI, 8, .inl u_3.2.2.1)), (a_wiring_rows, .inl (cI, 8, .inl u_3.2.2.2.1)), (a_wiring_back, .inl (cI, 8, .inl u_3.2.2.2.2)), (a_picture, .inr (0, [.ref z_picture_flipsOf, .ref z_picture_termsAt, .ref z_picture_numbers, .ref z_picture_spread, .int picture_drawn, .int picture_held, .int picture_terms, .int picture_widest, .int picture_halvings, .int picture_foundSigns]))] H := hP.sub [0, 1, 3, 4, 5, 6, 2] rfl
      have hD : va_D A [(a_p0, .inr (3, [.ref a_sum, .ref a_wiring, .ref a_picture])), (a_sum, .inr (1, [.ref z_sum_keys, .ref z_sum_numbers, .ref z_sum_spareKeys, .ref z_sum_spareNumbers, .int 0])), (a_wiring, .inr (2, [.ref a_wiring_told, .ref a_wiring_rows, .ref a_wiring_back, .ref z_wiring_spareBack, .ref z_wiring_left, .int u_3.1, .int u_3.2.1])), (a_wiring_told, .inl (cI, 8, .inl u_3.2.2.1)), (a_wiring_rows, .inl (cI, 8, .inl u_3.2.2.2.1)), (a_wiring_back, .inl (cI, 8, .inl u_3.2.2.2.2)), (a_picture, .inr (0, [.ref z_picture_flipsOf, .ref z_picture_termsAt, .ref z_picture_numbers, .ref z_picture_spread, .int picture_drawn, .int picture_held, .int picture_terms, .int picture_widest, .int picture_halvings, .int picture_foundSigns]))] := hD.sub [0, 1, 3, 4, 5, 6, 2] (by decide) rfl
      refine lv_aload_n hx hb d_FM_begin_29 rfl (lv_at hl 0 rfl) ?_
      refine va_get (D := (dC, dI)) (ci := 3) (v := .ref a_picture) (C := "FermionMaps") (T := F_FM) (N := 3) hx hb ht0 i_FM hown hK hP 0 rfl rfl 2 (by decide) (ht0 _ m_133) (fun _ h9 => h9) rfl d_FM_begin_30 ?_
      refine lv_iconst (v := 0) hx hb d_FM_begin_33 (by decide) ?_
      refine va_put (D := (dC, dI)) (ci := 0) (v := .int 0) (ty := .boolean) (C := "FermionMaps$Picture") (T := F_Pi) (N := 10) hx hb ht0 i_Pi t_Pi t_Pi_ok n_Pi hown hK hP hD hS 6 rfl rfl 4 (by decide) (ht0 _ m_94) (fun _ h9 => h9) rfl (by decide +kernel) rfl rfl (Nat.le_of_ble_eq_true rfl) d_FM_begin_34 (fun H locs hP hD hS => ?_)
      have hP : va_P (dC, dI) cls [(a_p0, .inr (3, [.ref a_sum, .ref a_wiring, .ref a_picture])), (a_sum, .inr (1, [.ref z_sum_keys, .ref z_sum_numbers, .ref z_sum_spareKeys, .ref z_sum_spareNumbers, .int 0])), (a_wiring, .inr (2, [.ref a_wiring_told, .ref a_wiring_rows, .ref a_wiring_back, .ref z_wiring_spareBack, .ref z_wiring_left, .int u_3.1, .int u_3.2.1])), (a_wiring_told, .inl (cI, 8, .inl u_3.2.2.1)), (a_wiring_rows, .inl (cI, 8, .inl u_3.2.2.2.1)), (a_wiring_back, .inl (cI, 8, .inl u_3.2.2.2.2)), (a_picture, .inr (0, [.ref z_picture_flipsOf, .ref z_picture_termsAt, .ref z_picture_numbers, .ref z_picture_spread, .int 0, .int picture_held, .int picture_terms, .int picture_widest, .int picture_halvings, .int picture_foundSigns]))] H := hP
      have hD : va_D A [(a_p0, .inr (3, [.ref a_sum, .ref a_wiring, .ref a_picture])), (a_sum, .inr (1, [.ref z_sum_keys, .ref z_sum_numbers, .ref z_sum_spareKeys, .ref z_sum_spareNumbers, .int 0])), (a_wiring, .inr (2, [.ref a_wiring_told, .ref a_wiring_rows, .ref a_wiring_back, .ref z_wiring_spareBack, .ref z_wiring_left, .int u_3.1, .int u_3.2.1])), (a_wiring_told, .inl (cI, 8, .inl u_3.2.2.1)), (a_wiring_rows, .inl (cI, 8, .inl u_3.2.2.2.1)), (a_wiring_back, .inl (cI, 8, .inl u_3.2.2.2.2)), (a_picture, .inr (0, [.ref z_picture_flipsOf, .ref z_picture_termsAt, .ref z_picture_numbers, .ref z_picture_spread, .int 0, .int picture_held, .int picture_terms, .int picture_widest, .int picture_halvings, .int picture_foundSigns]))] := hD
      refine lv_iconst (v := 1) hx hb d_FM_begin_37 (by decide) ?_
      have hu := Option.some.inj hf
      subst hu
      exact rw_z hQ rfl rfl rfl hP hD hK hS hx hb hr hlocks d_FM_begin_38
    · replace hf := if_f c_2 hf
      refine lv_iconst (v := 0) hx hb d_FM_begin_11 (by decide) ?_
      have hu := Option.some.inj hf
      subst hu
      exact rw_z hQ rfl rfl rfl hP hD hK hS hx hb hr hlocks d_FM_begin_12

/-! FermionMaps.isSet(I)Z -/
def f_FM_isSet (F : Nat) (wiring_size : Int32) (p1 : Int32) : Option (Int32) :=
  if p1 < 0 then
    some (0)
  else
    if ((1 : Int32) <<< (wiring_size &&& 31)) ≤ p1 then
      some (0)
    else
      some (1)
abbrev rm_FM_isSet : Room := { frames := 0, cells := 0, slots := 0, locals := 0 }
set_option maxHeartbeats 4000000 in
set_option maxRecDepth 100000 in
theorem c_FM_isSet (l : Launch) (dC : Nat → ClassId) (dI : Nat → Nat → Nat) (cI cJ : ClassId) (a_p0 a_wiring z_sum z_picture z_wiring_told z_wiring_rows z_wiring_back z_wiring_spareBack z_wiring_left : Nat) (wiring_size : Int32) (wiring_kind : Int32) (p1 : Int32) (F : Nat) (u : Int32) (hf : f_FM_isSet F wiring_size p1 = some u) : Met l y_FM_isSet (Cond.code y_FM_isSet prog_1_method_14_code 2 (some .boolean) :: T0) rm_FM_isSet (va_Pc [.ref a_p0, .int p1] (Wr (dC, dI) [(a_p0, .inr (3, [.ref z_sum, .ref a_wiring, .ref z_picture])), (a_wiring, .inr (2, [.ref z_wiring_told, .ref z_wiring_rows, .ref z_wiring_back, .ref z_wiring_spareBack, .ref z_wiring_left, .int wiring_size, .int wiring_kind]))] [(cI, .int), (cJ, .long)])) (vp_Si (fun r => r = u)) 0 0 (fun _ => False) := by
  refine Met.ofW (cc := prog_1_method_14_code) (maxL := 2) (ret := (some .boolean)) (by decide) rfl ?_
  intro p e s m args below meth c s₁ B hml hv
  obtain ⟨rfl, hP, hK, hNW⟩ := hv
  have hx := B.exec
  have hb := B.bytes
  have hr := B.returns
  have hts := atoms_spec (ws := Cond.code y_FM_isSet prog_1_method_14_code 2 (some .boolean) :: T0) B.pre
  have ht0 : ∀ w ∈ T0, w.before ([.ref a_p0, .int p1] : List Value).toArray s = true := fun w h => hts w (List.mem_cons_of_mem _ h)
  have hown : s.vm.findClass "FermionMaps" = some m.cls := findClass_of_methodNamed B.named
  have hlocks := B.notSynchronized
  have hl := lv_entry ([.ref a_p0, .int p1]) (n := 2) (Nat.le_of_ble_eq_true rfl)
  rw [lg_entry_eq]
  generalize (lg_sl ([.ref a_p0, .int p1]) ++ List.replicate (2 - (lg_sl ([.ref a_p0, .int p1])).length) Slot.unset).toArray = ls at hl ⊢
  have hl : lv_has ls 2 [(0, .ref a_p0), (1, .int p1)] := hl
  refine W.nameQ (fun Q hQ => ?_)
  rw [f_FM_isSet] at hf
  refine lv_iload_n hx hb d_FM_isSet_0 rfl (lv_at hl 1 rfl) ?_
  refine lv_if_lt (tgt := 21) hx hb d_FM_isSet_1 (by decide) (fun c_1 => ?_) (fun c_1 => ?_)
  · replace hf := if_t c_1 hf
    refine lv_iconst (v := 0) hx hb d_FM_isSet_21 (by decide) ?_
    have hu := Option.some.inj hf
    subst hu
    exact rt_z hQ rfl rfl hx hb hr hlocks d_FM_isSet_22
  · replace hf := if_f c_1 hf
    refine lv_iload_n hx hb d_FM_isSet_4 rfl (lv_at hl 1 rfl) ?_
    refine lv_iconst (v := 1) hx hb d_FM_isSet_5 (by decide) ?_
    refine lv_aload_n hx hb d_FM_isSet_6 rfl (lv_at hl 0 rfl) ?_
    refine va_get (D := (dC, dI)) (ci := 3) (v := .ref a_wiring) (C := "FermionMaps") (T := F_FM) (N := 3) hx hb ht0 i_FM hown hK hP 0 rfl rfl 1 (by decide) (ht0 _ m_132) (fun _ h9 => h9) rfl d_FM_isSet_7 ?_
    refine va_get (D := (dC, dI)) (ci := 2) (v := .int wiring_size) (C := "FermionMaps$Wiring") (T := F_Wi) (N := 7) hx hb ht0 i_Wi hown hK hP 1 rfl rfl 5 (by decide) (ht0 _ m_65) (fun _ h9 => h9) rfl d_FM_isSet_10 ?_
    refine lv_ishl hx hb d_FM_isSet_13 ?_
    refine lv_icmp_ge (tgt := 21) hx hb d_FM_isSet_14 (by decide) (fun c_2 => ?_) (fun c_2 => ?_)
    · replace hf := if_t c_2 hf
      refine lv_iconst (v := 0) hx hb d_FM_isSet_21 (by decide) ?_
      have hu := Option.some.inj hf
      subst hu
      exact rt_z hQ rfl rfl hx hb hr hlocks d_FM_isSet_22
    · replace hf := if_f c_2 hf
      refine lv_iconst (v := 1) hx hb d_FM_isSet_17 (by decide) ?_
      refine lv_goto (tgt := 22) hx hb d_FM_isSet_18 (by decide) ?_
      have hu := Option.some.inj hf
      subst hu
      exact rt_z hQ rfl rfl hx hb hr hlocks d_FM_isSet_22

/-! FermionMaps.add(III)I -/
def f_FM_add (F : Nat) (sum_count : Int32) (sum_keys : Nat → Int32) (sum_numbers : Nat → Int32) (wiring_size : Int32) (picture_drawn : Int32) (p1 : Int32) (p2 : Int32) (p3 : Int32) : Option (Int32 × Int32 × (Nat → Int32) × (Nat → Int32) × Int32) :=
  (f_FM_isSet F wiring_size p1).bind fun u_1 =>
  if u_1 = 0 then
    some ((-1), sum_count, sum_keys, sum_numbers, picture_drawn)
  else
    (f_FM_isSet F wiring_size p2).bind fun u_3 =>
    if u_3 = 0 then
      some ((-1), sum_count, sum_keys, sum_numbers, picture_drawn)
    else
      (f_FM_isBeyond F p3).bind fun u_5 =>
      if u_5 = 0 then
        (f_Su_take F sum_count sum_keys sum_numbers ((256 * p1) + p2) p3).bind fun u_7 =>
        if u_7.1 = 0 then
          some ((-1), u_7.2.1, u_7.2.2.1, u_7.2.2.2, picture_drawn)
        else
          some (u_7.2.1, u_7.2.1, u_7.2.2.1, u_7.2.2.2, 0)
      else
        some ((-1), sum_count, sum_keys, sum_numbers, picture_drawn)
abbrev rm_FM_add : Room := { frames := 3, cells := 0, slots := 0, locals := 67 }
set_option maxHeartbeats 4000000 in
set_option maxRecDepth 100000 in
theorem c_FM_add (l : Launch) (dC : Nat → ClassId) (dI : Nat → Nat → Nat) (cI cJ : ClassId) (a_p0 a_sum a_sum_keys a_sum_numbers a_wiring a_picture z_sum_spareKeys z_sum_spareNumbers z_wiring_told z_wiring_rows z_wiring_back z_wiring_spareBack z_wiring_left z_picture_flipsOf z_picture_termsAt z_picture_numbers z_picture_spread : Nat) (sz : Nat) (sum_count : Int32) (sum_keys : Nat → Int32) (sum_numbers : Nat → Int32) (wiring_size : Int32) (wiring_kind : Int32) (picture_drawn : Int32) (picture_held : Int32) (picture_terms : Int32) (picture_widest : Int32) (picture_halvings : Int32) (picture_foundSigns : Int32) (p1 : Int32) (p2 : Int32) (p3 : Int32) (F : Nat) (u : Int32 × Int32 × (Nat → Int32) × (Nat → Int32) × Int32) (hf : f_FM_add F sum_count sum_keys sum_numbers wiring_size picture_drawn p1 p2 p3 = some u) : Met l y_FM_add (Cond.code y_FM_add prog_1_method_3_code 4 (some .int) :: T0) rm_FM_add (va_Pc [.ref a_p0, .int p1, .int p2, .int p3] (Ww (dC, dI) [(a_p0, .inr (3, [.ref a_sum, .ref a_wiring, .ref a_picture])), (a_sum, .inr (1, [.ref a_sum_keys, .ref a_sum_numbers, .ref z_sum_spareKeys, .ref z_sum_spareNumbers, .int sum_count])), (a_sum_keys, .inl (cI, 60, .inl sum_keys)), (a_sum_numbers, .inl (cI, 60, .inl sum_numbers)), (a_wiring, .inr (2, [.ref z_wiring_told, .ref z_wiring_rows, .ref z_wiring_back, .ref z_wiring_spareBack, .ref z_wiring_left, .int wiring_size, .int wiring_kind])), (a_picture, .inr (0, [.ref z_picture_flipsOf, .ref z_picture_termsAt, .ref z_picture_numbers, .ref z_picture_spread, .int picture_drawn, .int picture_held, .int picture_terms, .int picture_widest, .int picture_halvings, .int picture_foundSigns]))] [(cI, .int), (cJ, .long)] sz)) (va_Qi (fun r (_ : Unit) => r = u.1) (Bw (dC, dI) [(cI, .int), (cJ, .long)] (va_A [(a_p0, .inr (3, [.ref a_sum, .ref a_wiring, .ref a_picture])), (a_sum, .inr (1, [.ref a_sum_keys, .ref a_sum_numbers, .ref z_sum_spareKeys, .ref z_sum_spareNumbers, .int sum_count])), (a_sum_keys, .inl (cI, 60, .inl sum_keys)), (a_sum_numbers, .inl (cI, 60, .inl sum_numbers)), (a_wiring, .inr (2, [.ref z_wiring_told, .ref z_wiring_rows, .ref z_wiring_back, .ref z_wiring_spareBack, .ref z_wiring_left, .int wiring_size, .int wiring_kind])), (a_picture, .inr (0, [.ref z_picture_flipsOf, .ref z_picture_termsAt, .ref z_picture_numbers, .ref z_picture_spread, .int picture_drawn, .int picture_held, .int picture_terms, .int picture_widest, .int picture_halvings, .int picture_foundSigns]))] sz) (fun w1 => w1 = [(a_p0, .inr (3, [.ref a_sum, .ref a_wiring, .ref a_picture])), (a_sum, .inr (1, [.ref a_sum_keys, .ref a_sum_numbers, .ref z_sum_spareKeys, .ref z_sum_spareNumbers, .int u.2.1])), (a_sum_keys, .inl (cI, 60, .inl u.2.2.1)), (a_sum_numbers, .inl (cI, 60, .inl u.2.2.2.1)), (a_wiring, .inr (2, [.ref z_wiring_told, .ref z_wiring_rows, .ref z_wiring_back, .ref z_wiring_spareBack, .ref z_wiring_left, .int wiring_size, .int wiring_kind])), (a_picture, .inr (0, [.ref z_picture_flipsOf, .ref z_picture_termsAt, .ref z_picture_numbers, .ref z_picture_spread, .int u.2.2.2.2, .int picture_held, .int picture_terms, .int picture_widest, .int picture_halvings, .int picture_foundSigns]))])) (va_A [(a_p0, .inr (3, [.ref a_sum, .ref a_wiring, .ref a_picture])), (a_sum, .inr (1, [.ref a_sum_keys, .ref a_sum_numbers, .ref z_sum_spareKeys, .ref z_sum_spareNumbers, .int sum_count])), (a_sum_keys, .inl (cI, 60, .inl sum_keys)), (a_sum_numbers, .inl (cI, 60, .inl sum_numbers)), (a_wiring, .inr (2, [.ref z_wiring_told, .ref z_wiring_rows, .ref z_wiring_back, .ref z_wiring_spareBack, .ref z_wiring_left, .int wiring_size, .int wiring_kind])), (a_picture, .inr (0, [.ref z_picture_flipsOf, .ref z_picture_termsAt, .ref z_picture_numbers, .ref z_picture_spread, .int picture_drawn, .int picture_held, .int picture_terms, .int picture_widest, .int picture_halvings, .int picture_foundSigns]))] sz)) 0 0 (va_A [(a_p0, .inr (3, [.ref a_sum, .ref a_wiring, .ref a_picture])), (a_sum, .inr (1, [.ref a_sum_keys, .ref a_sum_numbers, .ref z_sum_spareKeys, .ref z_sum_spareNumbers, .int sum_count])), (a_sum_keys, .inl (cI, 60, .inl sum_keys)), (a_sum_numbers, .inl (cI, 60, .inl sum_numbers)), (a_wiring, .inr (2, [.ref z_wiring_told, .ref z_wiring_rows, .ref z_wiring_back, .ref z_wiring_spareBack, .ref z_wiring_left, .int wiring_size, .int wiring_kind])), (a_picture, .inr (0, [.ref z_picture_flipsOf, .ref z_picture_termsAt, .ref z_picture_numbers, .ref z_picture_spread, .int picture_drawn, .int picture_held, .int picture_terms, .int picture_widest, .int picture_halvings, .int picture_foundSigns]))] sz) := by
  refine Met.ofW (cc := prog_1_method_3_code) (maxL := 4) (ret := (some .int)) (by decide) rfl ?_
  intro p e s m args below meth c s₁ B hml hv
  obtain ⟨rfl, hsz, hP, hK, hD0, hNW⟩ := hv
  have hx := B.exec
  have hb := B.bytes
  have hr := B.returns
  have hts := atoms_spec (ws := Cond.code y_FM_add prog_1_method_3_code 4 (some .int) :: T0) B.pre
  have ht0 : ∀ w ∈ T0, w.before ([.ref a_p0, .int p1, .int p2, .int p3] : List Value).toArray s = true := fun w h => hts w (List.mem_cons_of_mem _ h)
  have hown : s.vm.findClass "FermionMaps" = some m.cls := findClass_of_methodNamed B.named
  have hlocks := B.notSynchronized
  subst hsz
  have hD := hD0.self (sz := s.heap.size)
  generalize hAe : va_A [(a_p0, .inr (3, [.ref a_sum, .ref a_wiring, .ref a_picture])), (a_sum, .inr (1, [.ref a_sum_keys, .ref a_sum_numbers, .ref z_sum_spareKeys, .ref z_sum_spareNumbers, .int sum_count])), (a_sum_keys, .inl (cI, 60, .inl sum_keys)), (a_sum_numbers, .inl (cI, 60, .inl sum_numbers)), (a_wiring, .inr (2, [.ref z_wiring_told, .ref z_wiring_rows, .ref z_wiring_back, .ref z_wiring_spareBack, .ref z_wiring_left, .int wiring_size, .int wiring_kind])), (a_picture, .inr (0, [.ref z_picture_flipsOf, .ref z_picture_termsAt, .ref z_picture_numbers, .ref z_picture_spread, .int picture_drawn, .int picture_held, .int picture_terms, .int picture_widest, .int picture_halvings, .int picture_foundSigns]))] s.heap.size = A at hD ⊢
  have hA : ∀ q : Nat, s.heap.size ≤ q → A q := fun q h => by rw [← hAe]; exact Or.inr h
  have hS : va_S A s.heap s.heap [] := va_S.rf
  have hl := lv_entry ([.ref a_p0, .int p1, .int p2, .int p3]) (n := 4) (Nat.le_of_ble_eq_true rfl)
  rw [lg_entry_eq]
  generalize (lg_sl ([.ref a_p0, .int p1, .int p2, .int p3]) ++ List.replicate (4 - (lg_sl ([.ref a_p0, .int p1, .int p2, .int p3])).length) Slot.unset).toArray = ls at hl ⊢
  have hl : lv_has ls 4 [(0, .ref a_p0), (1, .int p1), (2, .int p2), (3, .int p3)] := hl
  refine W.nameQ (fun Q hQ => ?_)
  rw [f_FM_add] at hf
  refine lv_aload_n hx hb d_FM_add_0 rfl (lv_at hl 0 rfl) ?_
  refine lv_iload_n hx hb d_FM_add_1 rfl (lv_at hl 1 rfl) ?_
  obtain ⟨u_1, h_u_1, hf⟩ := bd hf
  refine rd_i (rdV_run (As := [.int p1]) (rest := []) ⟨hx, hb, hml, hown, ht0⟩ (c_FM_isSet l dC dI cI cJ a_p0 a_wiring a_sum a_picture z_wiring_told z_wiring_rows z_wiring_back z_wiring_spareBack z_wiring_left wiring_size wiring_kind p1 F u_1 h_u_1) (cwV 1 ht0 (gV m_149 m_151 (T0_pr (y := ⟨"FermionMaps", "isSet", "(I)Z"⟩) (i := 0) rfl rfl) m_1 m_152) rfl rfl rfl (by decide +kernel) ⟨Nat.le_of_ble_eq_true rfl, Nat.le_of_ble_eq_true rfl⟩) hK hNW hP [0, 4] rfl (ci := 3) (q0 := 0) rfl rfl rfl hl.1 rfl (Nat.le_of_ble_eq_true rfl) d_FM_add_2 ⟨Nat.zero_le _, Nat.zero_le _⟩) ?_
  refine lv_if_eq (tgt := 23) hx hb d_FM_add_5 (by decide) (fun c_2 => ?_) (fun c_2 => ?_)
  · replace hf := if_t c_2 hf
    refine lv_iconst (v := (-1)) hx hb d_FM_add_23 (by decide) ?_
    have hu := Option.some.inj hf
    subst hu
    exact rw_i hQ rfl rfl hP hD hK hS hx hb hr hlocks d_FM_add_24
  · replace hf := if_f c_2 hf
    refine lv_aload_n hx hb d_FM_add_8 rfl (lv_at hl 0 rfl) ?_
    refine lv_iload_n hx hb d_FM_add_9 rfl (lv_at hl 2 rfl) ?_
    obtain ⟨u_3, h_u_3, hf⟩ := bd hf
    refine rd_i (rdV_run (As := [.int p2]) (rest := []) ⟨hx, hb, hml, hown, ht0⟩ (c_FM_isSet l dC dI cI cJ a_p0 a_wiring a_sum a_picture z_wiring_told z_wiring_rows z_wiring_back z_wiring_spareBack z_wiring_left wiring_size wiring_kind p2 F u_3 h_u_3) (cwV 1 ht0 (gV m_149 m_151 (T0_pr (y := ⟨"FermionMaps", "isSet", "(I)Z"⟩) (i := 0) rfl rfl) m_1 m_152) rfl rfl rfl (by decide +kernel) ⟨Nat.le_of_ble_eq_true rfl, Nat.le_of_ble_eq_true rfl⟩) hK hNW hP [0, 4] rfl (ci := 3) (q0 := 0) rfl rfl rfl hl.1 rfl (Nat.le_of_ble_eq_true rfl) d_FM_add_10 ⟨Nat.zero_le _, Nat.zero_le _⟩) ?_
    refine lv_if_eq (tgt := 23) hx hb d_FM_add_13 (by decide) (fun c_4 => ?_) (fun c_4 => ?_)
    · replace hf := if_t c_4 hf
      refine lv_iconst (v := (-1)) hx hb d_FM_add_23 (by decide) ?_
      have hu := Option.some.inj hf
      subst hu
      exact rw_i hQ rfl rfl hP hD hK hS hx hb hr hlocks d_FM_add_24
    · replace hf := if_f c_4 hf
      refine lv_iload_n hx hb d_FM_add_16 rfl (lv_at hl 3 rfl) ?_
      obtain ⟨u_5, h_u_5, hf⟩ := bd hf
      refine rd_i (rdS_run (As := [.int p3]) (rest := []) ⟨hx, hb, hml, hown, ht0⟩ (c_FM_isBeyond l dC dI cI cJ p3 F u_5 h_u_5) (va_cwS 1 ht0 (gS m_153 m_154 m_1 m_155) rfl rfl rfl (by decide +kernel) ⟨Nat.le_of_ble_eq_true rfl, Nat.le_of_ble_eq_true rfl⟩) hK hNW hP [] rfl  rfl hl.1 rfl (Nat.le_of_ble_eq_true rfl) d_FM_add_17 ⟨Nat.zero_le _, Nat.zero_le _⟩) ?_
      refine lv_if_eq (tgt := 25) hx hb d_FM_add_20 (by decide) (fun c_6 => ?_) (fun c_6 => ?_)
      · replace hf := if_t c_6 hf
        refine lv_aload_n hx hb d_FM_add_25 rfl (lv_at hl 0 rfl) ?_
        refine va_get (D := (dC, dI)) (ci := 3) (v := .ref a_sum) (C := "FermionMaps") (T := F_FM) (N := 3) hx hb ht0 i_FM hown hK hP 0 rfl rfl 0 (by decide) (ht0 _ m_131) (fun _ h9 => h9) rfl d_FM_add_26 ?_
        refine lv_sipush (v := 256) hx hb d_FM_add_29 (by decide) ?_
        refine lv_iload_n hx hb d_FM_add_32 rfl (lv_at hl 1 rfl) ?_
        refine lv_imul hx hb d_FM_add_33 ?_
        refine lv_iload_n hx hb d_FM_add_34 rfl (lv_at hl 2 rfl) ?_
        refine lv_iadd hx hb d_FM_add_35 ?_
        refine lv_iload_n hx hb d_FM_add_36 rfl (lv_at hl 3 rfl) ?_
        obtain ⟨u_7, h_u_7, hf⟩ := bd hf
        refine wr_i (wr := [(a_p0, .inr (3, [.ref a_sum, .ref a_wiring, .ref a_picture])), (a_wiring, .inr (2, [.ref z_wiring_told, .ref z_wiring_rows, .ref z_wiring_back, .ref z_wiring_spareBack, .ref z_wiring_left, .int wiring_size, .int wiring_kind])), (a_picture, .inr (0, [.ref z_picture_flipsOf, .ref z_picture_termsAt, .ref z_picture_numbers, .ref z_picture_spread, .int picture_drawn, .int picture_held, .int picture_terms, .int picture_widest, .int picture_halvings, .int picture_foundSigns]))]) (wrV_run (As := [.int ((256 * p1) + p2), .int p3]) (rest := []) ⟨hx, hb, hml, hown, ht0⟩ (c_Su_take l dC dI cI cJ a_sum a_sum_keys a_sum_numbers z_sum_spareKeys z_sum_spareNumbers s.heap.size sum_count sum_keys sum_numbers ((256 * p1) + p2) p3 F u_7 h_u_7) (cwV 2 ht0 (gV m_158 m_159 m_160 m_2 m_161) rfl rfl rfl (by decide +kernel) ⟨Nat.le_of_ble_eq_true rfl, Nat.le_of_ble_eq_true rfl⟩) hK hNW hP hD [1, 2, 3] rfl rfl (by decide) (ci := 1) (q0 := 1) rfl rfl rfl hl.1 rfl (Nat.le_of_ble_eq_true rfl) d_FM_add_37 ⟨Nat.zero_le _, Nat.zero_le _⟩) hP hD hS hA [1, 2, 3] [0, 4, 5] rfl rfl (by decide) (by decide) (fun w1 H locs hw hP hD hS => ?_)
        obtain rfl := hw
        have hP : va_P (dC, dI) cls [(a_p0, .inr (3, [.ref a_sum, .ref a_wiring, .ref a_picture])), (a_sum, .inr (1, [.ref a_sum_keys, .ref a_sum_numbers, .ref z_sum_spareKeys, .ref z_sum_spareNumbers, .int u_7.2.1])), (a_sum_keys, .inl (cI, 60, .inl u_7.2.2.1)), (a_sum_numbers, .inl (cI, 60, .inl u_7.2.2.2)), (a_wiring, .inr (2, [.ref z_wiring_told, .ref z_wiring_rows, .ref z_wiring_back, .ref z_wiring_spareBack, .ref z_wiring_left, .int wiring_size, .int wiring_kind])), (a_picture, .inr (0, [.ref z_picture_flipsOf, .ref z_picture_termsAt, .ref z_picture_numbers, .ref z_picture_spread, .int picture_drawn, .int picture_held, .int picture_terms, .int picture_widest, .int picture_halvings, .int picture_foundSigns]))] H := hP.sub [0, 3, 4, 5, 1, 2] rfl
        have hD : va_D A [(a_p0, .inr (3, [.ref a_sum, .ref a_wiring, .ref a_picture])), (a_sum, .inr (1, [.ref a_sum_keys, .ref a_sum_numbers, .ref z_sum_spareKeys, .ref z_sum_spareNumbers, .int u_7.2.1])), (a_sum_keys, .inl (cI, 60, .inl u_7.2.2.1)), (a_sum_numbers, .inl (cI, 60, .inl u_7.2.2.2)), (a_wiring, .inr (2, [.ref z_wiring_told, .ref z_wiring_rows, .ref z_wiring_back, .ref z_wiring_spareBack, .ref z_wiring_left, .int wiring_size, .int wiring_kind])), (a_picture, .inr (0, [.ref z_picture_flipsOf, .ref z_picture_termsAt, .ref z_picture_numbers, .ref z_picture_spread, .int picture_drawn, .int picture_held, .int picture_terms, .int picture_widest, .int picture_halvings, .int picture_foundSigns]))] := hD.sub [0, 3, 4, 5, 1, 2] (by decide) rfl
        refine lv_if_ne (tgt := 45) hx hb d_FM_add_40 (by decide) (fun c_8 => ?_) (fun c_8 => ?_)
        · replace hf := if_f c_8 hf
          refine lv_aload_n hx hb d_FM_add_45 rfl (lv_at hl 0 rfl) ?_
          refine va_get (D := (dC, dI)) (ci := 3) (v := .ref a_picture) (C := "FermionMaps") (T := F_FM) (N := 3) hx hb ht0 i_FM hown hK hP 0 rfl rfl 2 (by decide) (ht0 _ m_133) (fun _ h9 => h9) rfl d_FM_add_46 ?_
          refine lv_iconst (v := 0) hx hb d_FM_add_49 (by decide) ?_
          refine va_put (D := (dC, dI)) (ci := 0) (v := .int 0) (ty := .boolean) (C := "FermionMaps$Picture") (T := F_Pi) (N := 10) hx hb ht0 i_Pi t_Pi t_Pi_ok n_Pi hown hK hP hD hS 5 rfl rfl 4 (by decide) (ht0 _ m_94) (fun _ h9 => h9) rfl (by decide +kernel) rfl rfl (Nat.le_of_ble_eq_true rfl) d_FM_add_50 (fun H locs hP hD hS => ?_)
          have hP : va_P (dC, dI) cls [(a_p0, .inr (3, [.ref a_sum, .ref a_wiring, .ref a_picture])), (a_sum, .inr (1, [.ref a_sum_keys, .ref a_sum_numbers, .ref z_sum_spareKeys, .ref z_sum_spareNumbers, .int u_7.2.1])), (a_sum_keys, .inl (cI, 60, .inl u_7.2.2.1)), (a_sum_numbers, .inl (cI, 60, .inl u_7.2.2.2)), (a_wiring, .inr (2, [.ref z_wiring_told, .ref z_wiring_rows, .ref z_wiring_back, .ref z_wiring_spareBack, .ref z_wiring_left, .int wiring_size, .int wiring_kind])), (a_picture, .inr (0, [.ref z_picture_flipsOf, .ref z_picture_termsAt, .ref z_picture_numbers, .ref z_picture_spread, .int 0, .int picture_held, .int picture_terms, .int picture_widest, .int picture_halvings, .int picture_foundSigns]))] H := hP
          have hD : va_D A [(a_p0, .inr (3, [.ref a_sum, .ref a_wiring, .ref a_picture])), (a_sum, .inr (1, [.ref a_sum_keys, .ref a_sum_numbers, .ref z_sum_spareKeys, .ref z_sum_spareNumbers, .int u_7.2.1])), (a_sum_keys, .inl (cI, 60, .inl u_7.2.2.1)), (a_sum_numbers, .inl (cI, 60, .inl u_7.2.2.2)), (a_wiring, .inr (2, [.ref z_wiring_told, .ref z_wiring_rows, .ref z_wiring_back, .ref z_wiring_spareBack, .ref z_wiring_left, .int wiring_size, .int wiring_kind])), (a_picture, .inr (0, [.ref z_picture_flipsOf, .ref z_picture_termsAt, .ref z_picture_numbers, .ref z_picture_spread, .int 0, .int picture_held, .int picture_terms, .int picture_widest, .int picture_halvings, .int picture_foundSigns]))] := hD
          refine lv_aload_n hx hb d_FM_add_53 rfl (lv_at hl 0 rfl) ?_
          refine va_get (D := (dC, dI)) (ci := 3) (v := .ref a_sum) (C := "FermionMaps") (T := F_FM) (N := 3) hx hb ht0 i_FM hown hK hP 0 rfl rfl 0 (by decide) (ht0 _ m_131) (fun _ h9 => h9) rfl d_FM_add_54 ?_
          refine va_get (D := (dC, dI)) (ci := 1) (v := .int u_7.2.1) (C := "FermionMaps$Sum") (T := F_Su) (N := 5) hx hb ht0 i_Su hown hK hP 1 rfl rfl 4 (by decide) (ht0 _ m_33) (fun _ h9 => h9) rfl d_FM_add_57 ?_
          have hu := Option.some.inj hf
          subst hu
          exact rw_i hQ rfl rfl hP hD hK hS hx hb hr hlocks d_FM_add_60
        · replace hf := if_t c_8 hf
          refine lv_iconst (v := (-1)) hx hb d_FM_add_43 (by decide) ?_
          have hu := Option.some.inj hf
          subst hu
          exact rw_i hQ rfl rfl hP hD hK hS hx hb hr hlocks d_FM_add_44
      · replace hf := if_f c_6 hf
        refine lv_iconst (v := (-1)) hx hb d_FM_add_23 (by decide) ?_
        have hu := Option.some.inj hf
        subst hu
        exact rw_i hQ rfl rfl hP hD hK hS hx hb hr hlocks d_FM_add_24

/-! FermionMaps.ladder(IZZ)I -/
def f_FM_ladder (F : Nat) (sum_count : Int32) (sum_keys : Nat → Int32) (sum_numbers : Nat → Int32) (sum_spareKeys : Nat → Int32) (sum_spareNumbers : Nat → Int32) (wiring_size : Int32) (picture_drawn : Int32) (p1 : Int32) (p2 : Int32) (p3 : Int32) : Option (Int32 × Int32 × (Nat → Int32) × (Nat → Int32) × (Nat → Int32) × (Nat → Int32) × Int32) :=
  if p1 < 0 then
    some ((-1), sum_count, sum_keys, sum_numbers, sum_spareKeys, sum_spareNumbers, picture_drawn)
  else
    if p1 < wiring_size then
      (f_Su_climb F sum_count sum_keys sum_numbers sum_spareKeys sum_spareNumbers p1 p2 p3).bind fun u_3 =>
      if u_3.1 = 0 then
        some ((-1), u_3.2.1, u_3.2.2.1, u_3.2.2.2.1, u_3.2.2.2.2.1, u_3.2.2.2.2.2, picture_drawn)
      else
        some (u_3.2.1, u_3.2.1, u_3.2.2.1, u_3.2.2.2.1, u_3.2.2.2.2.1, u_3.2.2.2.2.2, 0)
    else
      some ((-1), sum_count, sum_keys, sum_numbers, sum_spareKeys, sum_spareNumbers, picture_drawn)
abbrev rm_FM_ladder : Room := { frames := 5, cells := 0, slots := 0, locals := 122 }
set_option maxHeartbeats 4000000 in
set_option maxRecDepth 100000 in
theorem c_FM_ladder (l : Launch) (dC : Nat → ClassId) (dI : Nat → Nat → Nat) (cI cJ : ClassId) (a_p0 a_sum a_sum_keys a_sum_numbers a_sum_spareKeys a_sum_spareNumbers a_wiring a_picture z_wiring_told z_wiring_rows z_wiring_back z_wiring_spareBack z_wiring_left z_picture_flipsOf z_picture_termsAt z_picture_numbers z_picture_spread : Nat) (sz : Nat) (sum_count : Int32) (sum_keys : Nat → Int32) (sum_numbers : Nat → Int32) (sum_spareKeys : Nat → Int32) (sum_spareNumbers : Nat → Int32) (wiring_size : Int32) (wiring_kind : Int32) (picture_drawn : Int32) (picture_held : Int32) (picture_terms : Int32) (picture_widest : Int32) (picture_halvings : Int32) (picture_foundSigns : Int32) (p1 : Int32) (p2 : Int32) (p3 : Int32) (F : Nat) (u : Int32 × Int32 × (Nat → Int32) × (Nat → Int32) × (Nat → Int32) × (Nat → Int32) × Int32) (hf : f_FM_ladder F sum_count sum_keys sum_numbers sum_spareKeys sum_spareNumbers wiring_size picture_drawn p1 p2 p3 = some u) : Met l y_FM_ladder (Cond.code y_FM_ladder prog_1_method_4_code 4 (some .int) :: T0) rm_FM_ladder (va_Pc [.ref a_p0, .int p1, .int p2, .int p3] (Ww (dC, dI) [(a_p0, .inr (3, [.ref a_sum, .ref a_wiring, .ref a_picture])), (a_sum, .inr (1, [.ref a_sum_keys, .ref a_sum_numbers, .ref a_sum_spareKeys, .ref a_sum_spareNumbers, .int sum_count])), (a_sum_keys, .inl (cI, 60, .inl sum_keys)), (a_sum_numbers, .inl (cI, 60, .inl sum_numbers)), (a_sum_spareKeys, .inl (cI, 60, .inl sum_spareKeys)), (a_sum_spareNumbers, .inl (cI, 60, .inl sum_spareNumbers)), (a_wiring, .inr (2, [.ref z_wiring_told, .ref z_wiring_rows, .ref z_wiring_back, .ref z_wiring_spareBack, .ref z_wiring_left, .int wiring_size, .int wiring_kind])), (a_picture, .inr (0, [.ref z_picture_flipsOf, .ref z_picture_termsAt, .ref z_picture_numbers, .ref z_picture_spread, .int picture_drawn, .int picture_held, .int picture_terms, .int picture_widest, .int picture_halvings, .int picture_foundSigns]))] [(cI, .int), (cJ, .long)] sz)) (va_Qi (fun r (_ : Unit) => r = u.1) (Bw (dC, dI) [(cI, .int), (cJ, .long)] (va_A [(a_p0, .inr (3, [.ref a_sum, .ref a_wiring, .ref a_picture])), (a_sum, .inr (1, [.ref a_sum_keys, .ref a_sum_numbers, .ref a_sum_spareKeys, .ref a_sum_spareNumbers, .int sum_count])), (a_sum_keys, .inl (cI, 60, .inl sum_keys)), (a_sum_numbers, .inl (cI, 60, .inl sum_numbers)), (a_sum_spareKeys, .inl (cI, 60, .inl sum_spareKeys)), (a_sum_spareNumbers, .inl (cI, 60, .inl sum_spareNumbers)), (a_wiring, .inr (2, [.ref z_wiring_told, .ref z_wiring_rows, .ref z_wiring_back, .ref z_wiring_spareBack, .ref z_wiring_left, .int wiring_size, .int wiring_kind])), (a_picture, .inr (0, [.ref z_picture_flipsOf, .ref z_picture_termsAt, .ref z_picture_numbers, .ref z_picture_spread, .int picture_drawn, .int picture_held, .int picture_terms, .int picture_widest, .int picture_halvings, .int picture_foundSigns]))] sz) (fun w1 => ∃ q_sum q_sum_keys q_sum_numbers q_sum_spareKeys q_sum_spareNumbers q_wiring q_picture : Nat, w1 = [(a_p0, .inr (3, [.ref q_sum, .ref q_wiring, .ref q_picture])), (q_sum, .inr (1, [.ref q_sum_keys, .ref q_sum_numbers, .ref q_sum_spareKeys, .ref q_sum_spareNumbers, .int u.2.1])), (q_sum_keys, .inl (cI, 60, .inl u.2.2.1)), (q_sum_numbers, .inl (cI, 60, .inl u.2.2.2.1)), (q_sum_spareKeys, .inl (cI, 60, .inl u.2.2.2.2.1)), (q_sum_spareNumbers, .inl (cI, 60, .inl u.2.2.2.2.2.1)), (q_wiring, .inr (2, [.ref z_wiring_told, .ref z_wiring_rows, .ref z_wiring_back, .ref z_wiring_spareBack, .ref z_wiring_left, .int wiring_size, .int wiring_kind])), (q_picture, .inr (0, [.ref z_picture_flipsOf, .ref z_picture_termsAt, .ref z_picture_numbers, .ref z_picture_spread, .int u.2.2.2.2.2.2, .int picture_held, .int picture_terms, .int picture_widest, .int picture_halvings, .int picture_foundSigns]))])) (va_A [(a_p0, .inr (3, [.ref a_sum, .ref a_wiring, .ref a_picture])), (a_sum, .inr (1, [.ref a_sum_keys, .ref a_sum_numbers, .ref a_sum_spareKeys, .ref a_sum_spareNumbers, .int sum_count])), (a_sum_keys, .inl (cI, 60, .inl sum_keys)), (a_sum_numbers, .inl (cI, 60, .inl sum_numbers)), (a_sum_spareKeys, .inl (cI, 60, .inl sum_spareKeys)), (a_sum_spareNumbers, .inl (cI, 60, .inl sum_spareNumbers)), (a_wiring, .inr (2, [.ref z_wiring_told, .ref z_wiring_rows, .ref z_wiring_back, .ref z_wiring_spareBack, .ref z_wiring_left, .int wiring_size, .int wiring_kind])), (a_picture, .inr (0, [.ref z_picture_flipsOf, .ref z_picture_termsAt, .ref z_picture_numbers, .ref z_picture_spread, .int picture_drawn, .int picture_held, .int picture_terms, .int picture_widest, .int picture_halvings, .int picture_foundSigns]))] sz)) 0 0 (va_A [(a_p0, .inr (3, [.ref a_sum, .ref a_wiring, .ref a_picture])), (a_sum, .inr (1, [.ref a_sum_keys, .ref a_sum_numbers, .ref a_sum_spareKeys, .ref a_sum_spareNumbers, .int sum_count])), (a_sum_keys, .inl (cI, 60, .inl sum_keys)), (a_sum_numbers, .inl (cI, 60, .inl sum_numbers)), (a_sum_spareKeys, .inl (cI, 60, .inl sum_spareKeys)), (a_sum_spareNumbers, .inl (cI, 60, .inl sum_spareNumbers)), (a_wiring, .inr (2, [.ref z_wiring_told, .ref z_wiring_rows, .ref z_wiring_back, .ref z_wiring_spareBack, .ref z_wiring_left, .int wiring_size, .int wiring_kind])), (a_picture, .inr (0, [.ref z_picture_flipsOf, .ref z_picture_termsAt, .ref z_picture_numbers, .ref z_picture_spread, .int picture_drawn, .int picture_held, .int picture_terms, .int picture_widest, .int picture_halvings, .int picture_foundSigns]))] sz) := by
  refine Met.ofW (cc := prog_1_method_4_code) (maxL := 4) (ret := (some .int)) (by decide) rfl ?_
  intro p e s m args below meth c s₁ B hml hv
  obtain ⟨rfl, hsz, hP, hK, hD0, hNW⟩ := hv
  have hx := B.exec
  have hb := B.bytes
  have hr := B.returns
  have hts := atoms_spec (ws := Cond.code y_FM_ladder prog_1_method_4_code 4 (some .int) :: T0) B.pre
  have ht0 : ∀ w ∈ T0, w.before ([.ref a_p0, .int p1, .int p2, .int p3] : List Value).toArray s = true := fun w h => hts w (List.mem_cons_of_mem _ h)
  have hown : s.vm.findClass "FermionMaps" = some m.cls := findClass_of_methodNamed B.named
  have hlocks := B.notSynchronized
  subst hsz
  have hD := hD0.self (sz := s.heap.size)
  generalize hAe : va_A [(a_p0, .inr (3, [.ref a_sum, .ref a_wiring, .ref a_picture])), (a_sum, .inr (1, [.ref a_sum_keys, .ref a_sum_numbers, .ref a_sum_spareKeys, .ref a_sum_spareNumbers, .int sum_count])), (a_sum_keys, .inl (cI, 60, .inl sum_keys)), (a_sum_numbers, .inl (cI, 60, .inl sum_numbers)), (a_sum_spareKeys, .inl (cI, 60, .inl sum_spareKeys)), (a_sum_spareNumbers, .inl (cI, 60, .inl sum_spareNumbers)), (a_wiring, .inr (2, [.ref z_wiring_told, .ref z_wiring_rows, .ref z_wiring_back, .ref z_wiring_spareBack, .ref z_wiring_left, .int wiring_size, .int wiring_kind])), (a_picture, .inr (0, [.ref z_picture_flipsOf, .ref z_picture_termsAt, .ref z_picture_numbers, .ref z_picture_spread, .int picture_drawn, .int picture_held, .int picture_terms, .int picture_widest, .int picture_halvings, .int picture_foundSigns]))] s.heap.size = A at hD ⊢
  have hA : ∀ q : Nat, s.heap.size ≤ q → A q := fun q h => by rw [← hAe]; exact Or.inr h
  have hS : va_S A s.heap s.heap [] := va_S.rf
  have hl := lv_entry ([.ref a_p0, .int p1, .int p2, .int p3]) (n := 4) (Nat.le_of_ble_eq_true rfl)
  rw [lg_entry_eq]
  generalize (lg_sl ([.ref a_p0, .int p1, .int p2, .int p3]) ++ List.replicate (4 - (lg_sl ([.ref a_p0, .int p1, .int p2, .int p3])).length) Slot.unset).toArray = ls at hl ⊢
  have hl : lv_has ls 4 [(0, .ref a_p0), (1, .int p1), (2, .int p2), (3, .int p3)] := hl
  refine W.nameQ (fun Q hQ => ?_)
  rw [f_FM_ladder] at hf
  refine lv_iload_n hx hb d_FM_ladder_0 rfl (lv_at hl 1 rfl) ?_
  refine lv_if_lt (tgt := 15) hx hb d_FM_ladder_1 (by decide) (fun c_1 => ?_) (fun c_1 => ?_)
  · replace hf := if_t c_1 hf
    refine lv_iconst (v := (-1)) hx hb d_FM_ladder_15 (by decide) ?_
    have hu := Option.some.inj hf
    subst hu
    exact rw_i hQ rfl ⟨a_sum, a_sum_keys, a_sum_numbers, a_sum_spareKeys, a_sum_spareNumbers, a_wiring, a_picture, rfl⟩ hP hD hK hS hx hb hr hlocks d_FM_ladder_16
  · replace hf := if_f c_1 hf
    refine lv_iload_n hx hb d_FM_ladder_4 rfl (lv_at hl 1 rfl) ?_
    refine lv_aload_n hx hb d_FM_ladder_5 rfl (lv_at hl 0 rfl) ?_
    refine va_get (D := (dC, dI)) (ci := 3) (v := .ref a_wiring) (C := "FermionMaps") (T := F_FM) (N := 3) hx hb ht0 i_FM hown hK hP 0 rfl rfl 1 (by decide) (ht0 _ m_132) (fun _ h9 => h9) rfl d_FM_ladder_6 ?_
    refine va_get (D := (dC, dI)) (ci := 2) (v := .int wiring_size) (C := "FermionMaps$Wiring") (T := F_Wi) (N := 7) hx hb ht0 i_Wi hown hK hP 6 rfl rfl 5 (by decide) (ht0 _ m_65) (fun _ h9 => h9) rfl d_FM_ladder_9 ?_
    refine lv_icmp_lt (tgt := 17) hx hb d_FM_ladder_12 (by decide) (fun c_2 => ?_) (fun c_2 => ?_)
    · replace hf := if_t c_2 hf
      refine lv_aload_n hx hb d_FM_ladder_17 rfl (lv_at hl 0 rfl) ?_
      refine va_get (D := (dC, dI)) (ci := 3) (v := .ref a_sum) (C := "FermionMaps") (T := F_FM) (N := 3) hx hb ht0 i_FM hown hK hP 0 rfl rfl 0 (by decide) (ht0 _ m_131) (fun _ h9 => h9) rfl d_FM_ladder_18 ?_
      refine lv_iload_n hx hb d_FM_ladder_21 rfl (lv_at hl 1 rfl) ?_
      refine lv_iload_n hx hb d_FM_ladder_22 rfl (lv_at hl 2 rfl) ?_
      refine lv_iload_n hx hb d_FM_ladder_23 rfl (lv_at hl 3 rfl) ?_
      obtain ⟨u_3, h_u_3, hf⟩ := bd hf
      refine wr_i (wr := [(a_p0, .inr (3, [.ref a_sum, .ref a_wiring, .ref a_picture])), (a_wiring, .inr (2, [.ref z_wiring_told, .ref z_wiring_rows, .ref z_wiring_back, .ref z_wiring_spareBack, .ref z_wiring_left, .int wiring_size, .int wiring_kind])), (a_picture, .inr (0, [.ref z_picture_flipsOf, .ref z_picture_termsAt, .ref z_picture_numbers, .ref z_picture_spread, .int picture_drawn, .int picture_held, .int picture_terms, .int picture_widest, .int picture_halvings, .int picture_foundSigns]))]) (wrV_run (As := [.int p1, .int p2, .int p3]) (rest := []) ⟨hx, hb, hml, hown, ht0⟩ (c_Su_climb l dC dI cI cJ a_sum a_sum_keys a_sum_numbers a_sum_spareKeys a_sum_spareNumbers s.heap.size sum_count sum_keys sum_numbers sum_spareKeys sum_spareNumbers p1 p2 p3 F u_3 h_u_3) (cwV 3 ht0 (gV m_179 m_180 m_181 m_2 m_182) rfl rfl rfl (by decide +kernel) ⟨Nat.le_of_ble_eq_true rfl, Nat.le_of_ble_eq_true rfl⟩) hK hNW hP hD [1, 2, 3, 4, 5] rfl rfl (by decide) (ci := 1) (q0 := 1) rfl rfl rfl hl.1 rfl (Nat.le_of_ble_eq_true rfl) d_FM_ladder_24 ⟨Nat.zero_le _, Nat.zero_le _⟩) hP hD hS hA [1, 2, 3, 4, 5] [0, 6, 7] rfl rfl (by decide) (by decide) (fun w1 H locs hw hP hD hS => ?_)
      obtain ⟨q_4, q_5, q_6, q_7, rfl⟩ := hw
      have hP : va_P (dC, dI) cls [(a_p0, .inr (3, [.ref a_sum, .ref a_wiring, .ref a_picture])), (a_sum, .inr (1, [.ref q_4, .ref q_5, .ref q_6, .ref q_7, .int u_3.2.1])), (q_4, .inl (cI, 60, .inl u_3.2.2.1)), (q_5, .inl (cI, 60, .inl u_3.2.2.2.1)), (q_6, .inl (cI, 60, .inl u_3.2.2.2.2.1)), (q_7, .inl (cI, 60, .inl u_3.2.2.2.2.2)), (a_wiring, .inr (2, [.ref z_wiring_told, .ref z_wiring_rows, .ref z_wiring_back, .ref z_wiring_spareBack, .ref z_wiring_left, .int wiring_size, .int wiring_kind])), (a_picture, .inr (0, [.ref z_picture_flipsOf, .ref z_picture_termsAt, .ref z_picture_numbers, .ref z_picture_spread, .int picture_drawn, .int picture_held, .int picture_terms, .int picture_widest, .int picture_halvings, .int picture_foundSigns]))] H := hP.sub [0, 3, 4, 5, 6, 7, 1, 2] rfl
      have hD : va_D A [(a_p0, .inr (3, [.ref a_sum, .ref a_wiring, .ref a_picture])), (a_sum, .inr (1, [.ref q_4, .ref q_5, .ref q_6, .ref q_7, .int u_3.2.1])), (q_4, .inl (cI, 60, .inl u_3.2.2.1)), (q_5, .inl (cI, 60, .inl u_3.2.2.2.1)), (q_6, .inl (cI, 60, .inl u_3.2.2.2.2.1)), (q_7, .inl (cI, 60, .inl u_3.2.2.2.2.2)), (a_wiring, .inr (2, [.ref z_wiring_told, .ref z_wiring_rows, .ref z_wiring_back, .ref z_wiring_spareBack, .ref z_wiring_left, .int wiring_size, .int wiring_kind])), (a_picture, .inr (0, [.ref z_picture_flipsOf, .ref z_picture_termsAt, .ref z_picture_numbers, .ref z_picture_spread, .int picture_drawn, .int picture_held, .int picture_terms, .int picture_widest, .int picture_halvings, .int picture_foundSigns]))] := hD.sub [0, 3, 4, 5, 6, 7, 1, 2] (by decide) rfl
      refine lv_if_ne (tgt := 32) hx hb d_FM_ladder_27 (by decide) (fun c_8 => ?_) (fun c_8 => ?_)
      · replace hf := if_f c_8 hf
        refine lv_aload_n hx hb d_FM_ladder_32 rfl (lv_at hl 0 rfl) ?_
        refine va_get (D := (dC, dI)) (ci := 3) (v := .ref a_picture) (C := "FermionMaps") (T := F_FM) (N := 3) hx hb ht0 i_FM hown hK hP 0 rfl rfl 2 (by decide) (ht0 _ m_133) (fun _ h9 => h9) rfl d_FM_ladder_33 ?_
        refine lv_iconst (v := 0) hx hb d_FM_ladder_36 (by decide) ?_
        refine va_put (D := (dC, dI)) (ci := 0) (v := .int 0) (ty := .boolean) (C := "FermionMaps$Picture") (T := F_Pi) (N := 10) hx hb ht0 i_Pi t_Pi t_Pi_ok n_Pi hown hK hP hD hS 7 rfl rfl 4 (by decide) (ht0 _ m_94) (fun _ h9 => h9) rfl (by decide +kernel) rfl rfl (Nat.le_of_ble_eq_true rfl) d_FM_ladder_37 (fun H locs hP hD hS => ?_)
        have hP : va_P (dC, dI) cls [(a_p0, .inr (3, [.ref a_sum, .ref a_wiring, .ref a_picture])), (a_sum, .inr (1, [.ref q_4, .ref q_5, .ref q_6, .ref q_7, .int u_3.2.1])), (q_4, .inl (cI, 60, .inl u_3.2.2.1)), (q_5, .inl (cI, 60, .inl u_3.2.2.2.1)), (q_6, .inl (cI, 60, .inl u_3.2.2.2.2.1)), (q_7, .inl (cI, 60, .inl u_3.2.2.2.2.2)), (a_wiring, .inr (2, [.ref z_wiring_told, .ref z_wiring_rows, .ref z_wiring_back, .ref z_wiring_spareBack, .ref z_wiring_left, .int wiring_size, .int wiring_kind])), (a_picture, .inr (0, [.ref z_picture_flipsOf, .ref z_picture_termsAt, .ref z_picture_numbers, .ref z_picture_spread, .int 0, .int picture_held, .int picture_terms, .int picture_widest, .int picture_halvings, .int picture_foundSigns]))] H := hP
        have hD : va_D A [(a_p0, .inr (3, [.ref a_sum, .ref a_wiring, .ref a_picture])), (a_sum, .inr (1, [.ref q_4, .ref q_5, .ref q_6, .ref q_7, .int u_3.2.1])), (q_4, .inl (cI, 60, .inl u_3.2.2.1)), (q_5, .inl (cI, 60, .inl u_3.2.2.2.1)), (q_6, .inl (cI, 60, .inl u_3.2.2.2.2.1)), (q_7, .inl (cI, 60, .inl u_3.2.2.2.2.2)), (a_wiring, .inr (2, [.ref z_wiring_told, .ref z_wiring_rows, .ref z_wiring_back, .ref z_wiring_spareBack, .ref z_wiring_left, .int wiring_size, .int wiring_kind])), (a_picture, .inr (0, [.ref z_picture_flipsOf, .ref z_picture_termsAt, .ref z_picture_numbers, .ref z_picture_spread, .int 0, .int picture_held, .int picture_terms, .int picture_widest, .int picture_halvings, .int picture_foundSigns]))] := hD
        refine lv_aload_n hx hb d_FM_ladder_40 rfl (lv_at hl 0 rfl) ?_
        refine va_get (D := (dC, dI)) (ci := 3) (v := .ref a_sum) (C := "FermionMaps") (T := F_FM) (N := 3) hx hb ht0 i_FM hown hK hP 0 rfl rfl 0 (by decide) (ht0 _ m_131) (fun _ h9 => h9) rfl d_FM_ladder_41 ?_
        refine va_get (D := (dC, dI)) (ci := 1) (v := .int u_3.2.1) (C := "FermionMaps$Sum") (T := F_Su) (N := 5) hx hb ht0 i_Su hown hK hP 1 rfl rfl 4 (by decide) (ht0 _ m_33) (fun _ h9 => h9) rfl d_FM_ladder_44 ?_
        have hu := Option.some.inj hf
        subst hu
        exact rw_i hQ rfl ⟨a_sum, q_4, q_5, q_6, q_7, a_wiring, a_picture, rfl⟩ hP hD hK hS hx hb hr hlocks d_FM_ladder_47
      · replace hf := if_t c_8 hf
        refine lv_iconst (v := (-1)) hx hb d_FM_ladder_30 (by decide) ?_
        have hu := Option.some.inj hf
        subst hu
        exact rw_i hQ rfl ⟨a_sum, q_4, q_5, q_6, q_7, a_wiring, a_picture, rfl⟩ hP hD hK hS hx hb hr hlocks d_FM_ladder_31
    · replace hf := if_f c_2 hf
      refine lv_iconst (v := (-1)) hx hb d_FM_ladder_15 (by decide) ?_
      have hu := Option.some.inj hf
      subst hu
      exact rw_i hQ rfl ⟨a_sum, a_sum_keys, a_sum_numbers, a_sum_spareKeys, a_sum_spareNumbers, a_wiring, a_picture, rfl⟩ hP hD hK hS hx hb hr hlocks d_FM_ladder_16

/-! FermionMaps.clear()V -/
def f_FM_clear (F : Nat) (sum_count : Int32) (picture_drawn : Int32) : Option (Int32 × Int32) :=
  some (0, 0)
abbrev rm_FM_clear : Room := { frames := 0, cells := 0, slots := 0, locals := 0 }
set_option maxHeartbeats 4000000 in
set_option maxRecDepth 100000 in
theorem c_FM_clear (l : Launch) (dC : Nat → ClassId) (dI : Nat → Nat → Nat) (cI cJ : ClassId) (a_p0 a_sum a_picture z_wiring z_sum_keys z_sum_numbers z_sum_spareKeys z_sum_spareNumbers z_picture_flipsOf z_picture_termsAt z_picture_numbers z_picture_spread : Nat) (sz : Nat) (sum_count : Int32) (picture_drawn : Int32) (picture_held : Int32) (picture_terms : Int32) (picture_widest : Int32) (picture_halvings : Int32) (picture_foundSigns : Int32) (F : Nat) (u : Int32 × Int32) (hf : f_FM_clear F sum_count picture_drawn = some u) : Met l y_FM_clear (Cond.code y_FM_clear prog_1_method_5_code 1 none :: T0) rm_FM_clear (va_Pc [.ref a_p0] (Ww (dC, dI) [(a_p0, .inr (3, [.ref a_sum, .ref z_wiring, .ref a_picture])), (a_sum, .inr (1, [.ref z_sum_keys, .ref z_sum_numbers, .ref z_sum_spareKeys, .ref z_sum_spareNumbers, .int sum_count])), (a_picture, .inr (0, [.ref z_picture_flipsOf, .ref z_picture_termsAt, .ref z_picture_numbers, .ref z_picture_spread, .int picture_drawn, .int picture_held, .int picture_terms, .int picture_widest, .int picture_halvings, .int picture_foundSigns]))] [(cI, .int), (cJ, .long)] sz)) (va_Qv (fun _ : Unit => True) (Bw (dC, dI) [(cI, .int), (cJ, .long)] (va_A [(a_p0, .inr (3, [.ref a_sum, .ref z_wiring, .ref a_picture])), (a_sum, .inr (1, [.ref z_sum_keys, .ref z_sum_numbers, .ref z_sum_spareKeys, .ref z_sum_spareNumbers, .int sum_count])), (a_picture, .inr (0, [.ref z_picture_flipsOf, .ref z_picture_termsAt, .ref z_picture_numbers, .ref z_picture_spread, .int picture_drawn, .int picture_held, .int picture_terms, .int picture_widest, .int picture_halvings, .int picture_foundSigns]))] sz) (fun w1 => w1 = [(a_p0, .inr (3, [.ref a_sum, .ref z_wiring, .ref a_picture])), (a_sum, .inr (1, [.ref z_sum_keys, .ref z_sum_numbers, .ref z_sum_spareKeys, .ref z_sum_spareNumbers, .int u.1])), (a_picture, .inr (0, [.ref z_picture_flipsOf, .ref z_picture_termsAt, .ref z_picture_numbers, .ref z_picture_spread, .int u.2, .int picture_held, .int picture_terms, .int picture_widest, .int picture_halvings, .int picture_foundSigns]))])) (va_A [(a_p0, .inr (3, [.ref a_sum, .ref z_wiring, .ref a_picture])), (a_sum, .inr (1, [.ref z_sum_keys, .ref z_sum_numbers, .ref z_sum_spareKeys, .ref z_sum_spareNumbers, .int sum_count])), (a_picture, .inr (0, [.ref z_picture_flipsOf, .ref z_picture_termsAt, .ref z_picture_numbers, .ref z_picture_spread, .int picture_drawn, .int picture_held, .int picture_terms, .int picture_widest, .int picture_halvings, .int picture_foundSigns]))] sz)) 0 0 (va_A [(a_p0, .inr (3, [.ref a_sum, .ref z_wiring, .ref a_picture])), (a_sum, .inr (1, [.ref z_sum_keys, .ref z_sum_numbers, .ref z_sum_spareKeys, .ref z_sum_spareNumbers, .int sum_count])), (a_picture, .inr (0, [.ref z_picture_flipsOf, .ref z_picture_termsAt, .ref z_picture_numbers, .ref z_picture_spread, .int picture_drawn, .int picture_held, .int picture_terms, .int picture_widest, .int picture_halvings, .int picture_foundSigns]))] sz) := by
  refine Met.ofW (cc := prog_1_method_5_code) (maxL := 1) (ret := none) (by decide) rfl ?_
  intro p e s m args below meth c s₁ B hml hv
  obtain ⟨rfl, hsz, hP, hK, hD0, hNW⟩ := hv
  have hx := B.exec
  have hb := B.bytes
  have hr := B.returns
  have hts := atoms_spec (ws := Cond.code y_FM_clear prog_1_method_5_code 1 none :: T0) B.pre
  have ht0 : ∀ w ∈ T0, w.before ([.ref a_p0] : List Value).toArray s = true := fun w h => hts w (List.mem_cons_of_mem _ h)
  have hown : s.vm.findClass "FermionMaps" = some m.cls := findClass_of_methodNamed B.named
  have hlocks := B.notSynchronized
  subst hsz
  have hD := hD0.self (sz := s.heap.size)
  generalize hAe : va_A [(a_p0, .inr (3, [.ref a_sum, .ref z_wiring, .ref a_picture])), (a_sum, .inr (1, [.ref z_sum_keys, .ref z_sum_numbers, .ref z_sum_spareKeys, .ref z_sum_spareNumbers, .int sum_count])), (a_picture, .inr (0, [.ref z_picture_flipsOf, .ref z_picture_termsAt, .ref z_picture_numbers, .ref z_picture_spread, .int picture_drawn, .int picture_held, .int picture_terms, .int picture_widest, .int picture_halvings, .int picture_foundSigns]))] s.heap.size = A at hD ⊢
  have hA : ∀ q : Nat, s.heap.size ≤ q → A q := fun q h => by rw [← hAe]; exact Or.inr h
  have hS : va_S A s.heap s.heap [] := va_S.rf
  have hl := lv_entry ([.ref a_p0]) (n := 1) (Nat.le_of_ble_eq_true rfl)
  rw [lg_entry_eq]
  generalize (lg_sl ([.ref a_p0]) ++ List.replicate (1 - (lg_sl ([.ref a_p0])).length) Slot.unset).toArray = ls at hl ⊢
  have hl : lv_has ls 1 [(0, .ref a_p0)] := hl
  refine W.nameQ (fun Q hQ => ?_)
  rw [f_FM_clear] at hf
  refine lv_aload_n hx hb d_FM_clear_0 rfl (lv_at hl 0 rfl) ?_
  refine va_get (D := (dC, dI)) (ci := 3) (v := .ref a_sum) (C := "FermionMaps") (T := F_FM) (N := 3) hx hb ht0 i_FM hown hK hP 0 rfl rfl 0 (by decide) (ht0 _ m_131) (fun _ h9 => h9) rfl d_FM_clear_1 ?_
  refine lv_iconst (v := 0) hx hb d_FM_clear_4 (by decide) ?_
  refine va_put (D := (dC, dI)) (ci := 1) (v := .int 0) (ty := .int) (C := "FermionMaps$Sum") (T := F_Su) (N := 5) hx hb ht0 i_Su t_Su t_Su_ok n_Su hown hK hP hD hS 1 rfl rfl 4 (by decide) (ht0 _ m_33) (fun _ h9 => h9) rfl (by decide +kernel) rfl rfl (Nat.le_of_ble_eq_true rfl) d_FM_clear_5 (fun H locs hP hD hS => ?_)
  have hP : va_P (dC, dI) cls [(a_p0, .inr (3, [.ref a_sum, .ref z_wiring, .ref a_picture])), (a_sum, .inr (1, [.ref z_sum_keys, .ref z_sum_numbers, .ref z_sum_spareKeys, .ref z_sum_spareNumbers, .int 0])), (a_picture, .inr (0, [.ref z_picture_flipsOf, .ref z_picture_termsAt, .ref z_picture_numbers, .ref z_picture_spread, .int picture_drawn, .int picture_held, .int picture_terms, .int picture_widest, .int picture_halvings, .int picture_foundSigns]))] H := hP
  have hD : va_D A [(a_p0, .inr (3, [.ref a_sum, .ref z_wiring, .ref a_picture])), (a_sum, .inr (1, [.ref z_sum_keys, .ref z_sum_numbers, .ref z_sum_spareKeys, .ref z_sum_spareNumbers, .int 0])), (a_picture, .inr (0, [.ref z_picture_flipsOf, .ref z_picture_termsAt, .ref z_picture_numbers, .ref z_picture_spread, .int picture_drawn, .int picture_held, .int picture_terms, .int picture_widest, .int picture_halvings, .int picture_foundSigns]))] := hD
  refine lv_aload_n hx hb d_FM_clear_8 rfl (lv_at hl 0 rfl) ?_
  refine va_get (D := (dC, dI)) (ci := 3) (v := .ref a_picture) (C := "FermionMaps") (T := F_FM) (N := 3) hx hb ht0 i_FM hown hK hP 0 rfl rfl 2 (by decide) (ht0 _ m_133) (fun _ h9 => h9) rfl d_FM_clear_9 ?_
  refine lv_iconst (v := 0) hx hb d_FM_clear_12 (by decide) ?_
  refine va_put (D := (dC, dI)) (ci := 0) (v := .int 0) (ty := .boolean) (C := "FermionMaps$Picture") (T := F_Pi) (N := 10) hx hb ht0 i_Pi t_Pi t_Pi_ok n_Pi hown hK hP hD hS 2 rfl rfl 4 (by decide) (ht0 _ m_94) (fun _ h9 => h9) rfl (by decide +kernel) rfl rfl (Nat.le_of_ble_eq_true rfl) d_FM_clear_13 (fun H locs hP hD hS => ?_)
  have hP : va_P (dC, dI) cls [(a_p0, .inr (3, [.ref a_sum, .ref z_wiring, .ref a_picture])), (a_sum, .inr (1, [.ref z_sum_keys, .ref z_sum_numbers, .ref z_sum_spareKeys, .ref z_sum_spareNumbers, .int 0])), (a_picture, .inr (0, [.ref z_picture_flipsOf, .ref z_picture_termsAt, .ref z_picture_numbers, .ref z_picture_spread, .int 0, .int picture_held, .int picture_terms, .int picture_widest, .int picture_halvings, .int picture_foundSigns]))] H := hP
  have hD : va_D A [(a_p0, .inr (3, [.ref a_sum, .ref z_wiring, .ref a_picture])), (a_sum, .inr (1, [.ref z_sum_keys, .ref z_sum_numbers, .ref z_sum_spareKeys, .ref z_sum_spareNumbers, .int 0])), (a_picture, .inr (0, [.ref z_picture_flipsOf, .ref z_picture_termsAt, .ref z_picture_numbers, .ref z_picture_spread, .int 0, .int picture_held, .int picture_terms, .int picture_widest, .int picture_halvings, .int picture_foundSigns]))] := hD
  have hu := Option.some.inj hf
  subst hu
  exact rw_v hQ rfl hP hD hK hS hx hb hr hlocks d_FM_clear_16

/-! FermionMaps.way(I)Z -/
def f_FM_way (F : Nat) (wiring_size : Int32) (wiring_kind : Int32) (wiring_told : Nat → Int32) (wiring_rows : Nat → Int32) (wiring_back : Nat → Int32) (wiring_spareBack : Nat → Int32) (wiring_left : Nat → Int32) (picture_drawn : Int32) (p1 : Int32) : Option (Int32 × Int32 × (Nat → Int32) × (Nat → Int32) × (Nat → Int32) × (Nat → Int32) × Int32) :=
  if p1 < 0 then
    some (0, wiring_kind, wiring_rows, wiring_back, wiring_spareBack, wiring_left, picture_drawn)
  else
    if 3 < p1 then
      some (0, wiring_kind, wiring_rows, wiring_back, wiring_spareBack, wiring_left, picture_drawn)
    else
      (f_Wi_choose F wiring_size wiring_kind wiring_told wiring_rows wiring_back wiring_spareBack wiring_left p1).bind fun u_3 =>
      if u_3.1 = 0 then
        some (0, u_3.2.1, u_3.2.2.1, u_3.2.2.2.1, u_3.2.2.2.2.1, u_3.2.2.2.2.2, picture_drawn)
      else
        some (1, u_3.2.1, u_3.2.2.1, u_3.2.2.2.1, u_3.2.2.2.2.1, u_3.2.2.2.2.2, 0)
abbrev rm_FM_way : Room := { frames := 4, cells := 0, slots := 0, locals := 91 }
set_option maxHeartbeats 4000000 in
set_option maxRecDepth 100000 in
theorem c_FM_way (l : Launch) (dC : Nat → ClassId) (dI : Nat → Nat → Nat) (cI cJ : ClassId) (a_p0 a_wiring a_wiring_told a_wiring_rows a_wiring_back a_wiring_spareBack a_wiring_left a_picture z_sum z_picture_flipsOf z_picture_termsAt z_picture_numbers z_picture_spread : Nat) (sz : Nat) (wiring_size : Int32) (wiring_kind : Int32) (wiring_told : Nat → Int32) (wiring_rows : Nat → Int32) (wiring_back : Nat → Int32) (wiring_spareBack : Nat → Int32) (wiring_left : Nat → Int32) (picture_drawn : Int32) (picture_held : Int32) (picture_terms : Int32) (picture_widest : Int32) (picture_halvings : Int32) (picture_foundSigns : Int32) (p1 : Int32) (F : Nat) (u : Int32 × Int32 × (Nat → Int32) × (Nat → Int32) × (Nat → Int32) × (Nat → Int32) × Int32) (hf : f_FM_way F wiring_size wiring_kind wiring_told wiring_rows wiring_back wiring_spareBack wiring_left picture_drawn p1 = some u) : Met l y_FM_way (Cond.code y_FM_way prog_1_method_8_code 2 (some .boolean) :: T0) rm_FM_way (va_Pc [.ref a_p0, .int p1] (Ww (dC, dI) [(a_p0, .inr (3, [.ref z_sum, .ref a_wiring, .ref a_picture])), (a_wiring, .inr (2, [.ref a_wiring_told, .ref a_wiring_rows, .ref a_wiring_back, .ref a_wiring_spareBack, .ref a_wiring_left, .int wiring_size, .int wiring_kind])), (a_wiring_told, .inl (cI, 8, .inl wiring_told)), (a_wiring_rows, .inl (cI, 8, .inl wiring_rows)), (a_wiring_back, .inl (cI, 8, .inl wiring_back)), (a_wiring_spareBack, .inl (cI, 8, .inl wiring_spareBack)), (a_wiring_left, .inl (cI, 8, .inl wiring_left)), (a_picture, .inr (0, [.ref z_picture_flipsOf, .ref z_picture_termsAt, .ref z_picture_numbers, .ref z_picture_spread, .int picture_drawn, .int picture_held, .int picture_terms, .int picture_widest, .int picture_halvings, .int picture_foundSigns]))] [(cI, .int), (cJ, .long)] sz)) (va_Qi (fun r (_ : Unit) => r = u.1) (Bw (dC, dI) [(cI, .int), (cJ, .long)] (va_A [(a_p0, .inr (3, [.ref z_sum, .ref a_wiring, .ref a_picture])), (a_wiring, .inr (2, [.ref a_wiring_told, .ref a_wiring_rows, .ref a_wiring_back, .ref a_wiring_spareBack, .ref a_wiring_left, .int wiring_size, .int wiring_kind])), (a_wiring_told, .inl (cI, 8, .inl wiring_told)), (a_wiring_rows, .inl (cI, 8, .inl wiring_rows)), (a_wiring_back, .inl (cI, 8, .inl wiring_back)), (a_wiring_spareBack, .inl (cI, 8, .inl wiring_spareBack)), (a_wiring_left, .inl (cI, 8, .inl wiring_left)), (a_picture, .inr (0, [.ref z_picture_flipsOf, .ref z_picture_termsAt, .ref z_picture_numbers, .ref z_picture_spread, .int picture_drawn, .int picture_held, .int picture_terms, .int picture_widest, .int picture_halvings, .int picture_foundSigns]))] sz) (fun w1 => ∃ q_wiring q_wiring_told q_wiring_rows q_wiring_back q_wiring_spareBack q_wiring_left q_picture : Nat, w1 = [(a_p0, .inr (3, [.ref z_sum, .ref q_wiring, .ref q_picture])), (q_wiring, .inr (2, [.ref q_wiring_told, .ref q_wiring_rows, .ref q_wiring_back, .ref q_wiring_spareBack, .ref q_wiring_left, .int wiring_size, .int u.2.1])), (q_wiring_told, .inl (cI, 8, .inl wiring_told)), (q_wiring_rows, .inl (cI, 8, .inl u.2.2.1)), (q_wiring_back, .inl (cI, 8, .inl u.2.2.2.1)), (q_wiring_spareBack, .inl (cI, 8, .inl u.2.2.2.2.1)), (q_wiring_left, .inl (cI, 8, .inl u.2.2.2.2.2.1)), (q_picture, .inr (0, [.ref z_picture_flipsOf, .ref z_picture_termsAt, .ref z_picture_numbers, .ref z_picture_spread, .int u.2.2.2.2.2.2, .int picture_held, .int picture_terms, .int picture_widest, .int picture_halvings, .int picture_foundSigns]))])) (va_A [(a_p0, .inr (3, [.ref z_sum, .ref a_wiring, .ref a_picture])), (a_wiring, .inr (2, [.ref a_wiring_told, .ref a_wiring_rows, .ref a_wiring_back, .ref a_wiring_spareBack, .ref a_wiring_left, .int wiring_size, .int wiring_kind])), (a_wiring_told, .inl (cI, 8, .inl wiring_told)), (a_wiring_rows, .inl (cI, 8, .inl wiring_rows)), (a_wiring_back, .inl (cI, 8, .inl wiring_back)), (a_wiring_spareBack, .inl (cI, 8, .inl wiring_spareBack)), (a_wiring_left, .inl (cI, 8, .inl wiring_left)), (a_picture, .inr (0, [.ref z_picture_flipsOf, .ref z_picture_termsAt, .ref z_picture_numbers, .ref z_picture_spread, .int picture_drawn, .int picture_held, .int picture_terms, .int picture_widest, .int picture_halvings, .int picture_foundSigns]))] sz)) 0 0 (va_A [(a_p0, .inr (3, [.ref z_sum, .ref a_wiring, .ref a_picture])), (a_wiring, .inr (2, [.ref a_wiring_told, .ref a_wiring_rows, .ref a_wiring_back, .ref a_wiring_spareBack, .ref a_wiring_left, .int wiring_size, .int wiring_kind])), (a_wiring_told, .inl (cI, 8, .inl wiring_told)), (a_wiring_rows, .inl (cI, 8, .inl wiring_rows)), (a_wiring_back, .inl (cI, 8, .inl wiring_back)), (a_wiring_spareBack, .inl (cI, 8, .inl wiring_spareBack)), (a_wiring_left, .inl (cI, 8, .inl wiring_left)), (a_picture, .inr (0, [.ref z_picture_flipsOf, .ref z_picture_termsAt, .ref z_picture_numbers, .ref z_picture_spread, .int picture_drawn, .int picture_held, .int picture_terms, .int picture_widest, .int picture_halvings, .int picture_foundSigns]))] sz) := by
  refine Met.ofW (cc := prog_1_method_8_code) (maxL := 2) (ret := (some .boolean)) (by decide) rfl ?_
  intro p e s m args below meth c s₁ B hml hv
  obtain ⟨rfl, hsz, hP, hK, hD0, hNW⟩ := hv
  have hx := B.exec
  have hb := B.bytes
  have hr := B.returns
  have hts := atoms_spec (ws := Cond.code y_FM_way prog_1_method_8_code 2 (some .boolean) :: T0) B.pre
  have ht0 : ∀ w ∈ T0, w.before ([.ref a_p0, .int p1] : List Value).toArray s = true := fun w h => hts w (List.mem_cons_of_mem _ h)
  have hown : s.vm.findClass "FermionMaps" = some m.cls := findClass_of_methodNamed B.named
  have hlocks := B.notSynchronized
  subst hsz
  have hD := hD0.self (sz := s.heap.size)
  generalize hAe : va_A [(a_p0, .inr (3, [.ref z_sum, .ref a_wiring, .ref a_picture])), (a_wiring, .inr (2, [.ref a_wiring_told, .ref a_wiring_rows, .ref a_wiring_back, .ref a_wiring_spareBack, .ref a_wiring_left, .int wiring_size, .int wiring_kind])), (a_wiring_told, .inl (cI, 8, .inl wiring_told)), (a_wiring_rows, .inl (cI, 8, .inl wiring_rows)), (a_wiring_back, .inl (cI, 8, .inl wiring_back)), (a_wiring_spareBack, .inl (cI, 8, .inl wiring_spareBack)), (a_wiring_left, .inl (cI, 8, .inl wiring_left)), (a_picture, .inr (0, [.ref z_picture_flipsOf, .ref z_picture_termsAt, .ref z_picture_numbers, .ref z_picture_spread, .int picture_drawn, .int picture_held, .int picture_terms, .int picture_widest, .int picture_halvings, .int picture_foundSigns]))] s.heap.size = A at hD ⊢
  have hA : ∀ q : Nat, s.heap.size ≤ q → A q := fun q h => by rw [← hAe]; exact Or.inr h
  have hS : va_S A s.heap s.heap [] := va_S.rf
  have hl := lv_entry ([.ref a_p0, .int p1]) (n := 2) (Nat.le_of_ble_eq_true rfl)
  rw [lg_entry_eq]
  generalize (lg_sl ([.ref a_p0, .int p1]) ++ List.replicate (2 - (lg_sl ([.ref a_p0, .int p1])).length) Slot.unset).toArray = ls at hl ⊢
  have hl : lv_has ls 2 [(0, .ref a_p0), (1, .int p1)] := hl
  refine W.nameQ (fun Q hQ => ?_)
  rw [f_FM_way] at hf
  refine lv_iload_n hx hb d_FM_way_0 rfl (lv_at hl 1 rfl) ?_
  refine lv_if_lt (tgt := 20) hx hb d_FM_way_1 (by decide) (fun c_1 => ?_) (fun c_1 => ?_)
  · replace hf := if_t c_1 hf
    refine lv_iconst (v := 0) hx hb d_FM_way_20 (by decide) ?_
    have hu := Option.some.inj hf
    subst hu
    exact rw_z hQ rfl rfl ⟨a_wiring, a_wiring_told, a_wiring_rows, a_wiring_back, a_wiring_spareBack, a_wiring_left, a_picture, rfl⟩ hP hD hK hS hx hb hr hlocks d_FM_way_21
  · replace hf := if_f c_1 hf
    refine lv_iload_n hx hb d_FM_way_4 rfl (lv_at hl 1 rfl) ?_
    refine lv_iconst (v := 3) hx hb d_FM_way_5 (by decide) ?_
    refine lv_icmp_gt (tgt := 20) hx hb d_FM_way_6 (by decide) (fun c_2 => ?_) (fun c_2 => ?_)
    · replace hf := if_t c_2 hf
      refine lv_iconst (v := 0) hx hb d_FM_way_20 (by decide) ?_
      have hu := Option.some.inj hf
      subst hu
      exact rw_z hQ rfl rfl ⟨a_wiring, a_wiring_told, a_wiring_rows, a_wiring_back, a_wiring_spareBack, a_wiring_left, a_picture, rfl⟩ hP hD hK hS hx hb hr hlocks d_FM_way_21
    · replace hf := if_f c_2 hf
      refine lv_aload_n hx hb d_FM_way_9 rfl (lv_at hl 0 rfl) ?_
      refine va_get (D := (dC, dI)) (ci := 3) (v := .ref a_wiring) (C := "FermionMaps") (T := F_FM) (N := 3) hx hb ht0 i_FM hown hK hP 0 rfl rfl 1 (by decide) (ht0 _ m_132) (fun _ h9 => h9) rfl d_FM_way_10 ?_
      refine lv_iload_n hx hb d_FM_way_13 rfl (lv_at hl 1 rfl) ?_
      obtain ⟨u_3, h_u_3, hf⟩ := bd hf
      refine wr_i (wr := [(a_p0, .inr (3, [.ref z_sum, .ref a_wiring, .ref a_picture])), (a_picture, .inr (0, [.ref z_picture_flipsOf, .ref z_picture_termsAt, .ref z_picture_numbers, .ref z_picture_spread, .int picture_drawn, .int picture_held, .int picture_terms, .int picture_widest, .int picture_halvings, .int picture_foundSigns]))]) (wrV_run (As := [.int p1]) (rest := []) ⟨hx, hb, hml, hown, ht0⟩ (c_Wi_choose l dC dI cI cJ a_wiring a_wiring_told a_wiring_rows a_wiring_back a_wiring_spareBack a_wiring_left s.heap.size wiring_size wiring_kind wiring_told wiring_rows wiring_back wiring_spareBack wiring_left p1 F u_3 h_u_3) (cwV 1 ht0 (gV m_221 m_222 m_223 m_3 m_224) rfl rfl rfl (by decide +kernel) ⟨Nat.le_of_ble_eq_true rfl, Nat.le_of_ble_eq_true rfl⟩) hK hNW hP hD [1, 2, 3, 4, 5, 6] rfl rfl (by decide) (ci := 2) (q0 := 1) rfl rfl rfl hl.1 rfl (Nat.le_of_ble_eq_true rfl) d_FM_way_14 ⟨Nat.zero_le _, Nat.zero_le _⟩) hP hD hS hA [1, 2, 3, 4, 5, 6] [0, 7] rfl rfl (by decide) (by decide) (fun w1 H locs hw hP hD hS => ?_)
      obtain ⟨q_4, q_5, q_6, q_7, q_8, rfl⟩ := hw
      have hP : va_P (dC, dI) cls [(a_p0, .inr (3, [.ref z_sum, .ref a_wiring, .ref a_picture])), (a_wiring, .inr (2, [.ref q_4, .ref q_5, .ref q_6, .ref q_7, .ref q_8, .int wiring_size, .int u_3.2.1])), (q_4, .inl (cI, 8, .inl wiring_told)), (q_5, .inl (cI, 8, .inl u_3.2.2.1)), (q_6, .inl (cI, 8, .inl u_3.2.2.2.1)), (q_7, .inl (cI, 8, .inl u_3.2.2.2.2.1)), (q_8, .inl (cI, 8, .inl u_3.2.2.2.2.2)), (a_picture, .inr (0, [.ref z_picture_flipsOf, .ref z_picture_termsAt, .ref z_picture_numbers, .ref z_picture_spread, .int picture_drawn, .int picture_held, .int picture_terms, .int picture_widest, .int picture_halvings, .int picture_foundSigns]))] H := hP.sub [0, 2, 3, 4, 5, 6, 7, 1] rfl
      have hD : va_D A [(a_p0, .inr (3, [.ref z_sum, .ref a_wiring, .ref a_picture])), (a_wiring, .inr (2, [.ref q_4, .ref q_5, .ref q_6, .ref q_7, .ref q_8, .int wiring_size, .int u_3.2.1])), (q_4, .inl (cI, 8, .inl wiring_told)), (q_5, .inl (cI, 8, .inl u_3.2.2.1)), (q_6, .inl (cI, 8, .inl u_3.2.2.2.1)), (q_7, .inl (cI, 8, .inl u_3.2.2.2.2.1)), (q_8, .inl (cI, 8, .inl u_3.2.2.2.2.2)), (a_picture, .inr (0, [.ref z_picture_flipsOf, .ref z_picture_termsAt, .ref z_picture_numbers, .ref z_picture_spread, .int picture_drawn, .int picture_held, .int picture_terms, .int picture_widest, .int picture_halvings, .int picture_foundSigns]))] := hD.sub [0, 2, 3, 4, 5, 6, 7, 1] (by decide) rfl
      refine lv_if_ne (tgt := 22) hx hb d_FM_way_17 (by decide) (fun c_9 => ?_) (fun c_9 => ?_)
      · replace hf := if_f c_9 hf
        refine lv_aload_n hx hb d_FM_way_22 rfl (lv_at hl 0 rfl) ?_
        refine va_get (D := (dC, dI)) (ci := 3) (v := .ref a_picture) (C := "FermionMaps") (T := F_FM) (N := 3) hx hb ht0 i_FM hown hK hP 0 rfl rfl 2 (by decide) (ht0 _ m_133) (fun _ h9 => h9) rfl d_FM_way_23 ?_
        refine lv_iconst (v := 0) hx hb d_FM_way_26 (by decide) ?_
        refine va_put (D := (dC, dI)) (ci := 0) (v := .int 0) (ty := .boolean) (C := "FermionMaps$Picture") (T := F_Pi) (N := 10) hx hb ht0 i_Pi t_Pi t_Pi_ok n_Pi hown hK hP hD hS 7 rfl rfl 4 (by decide) (ht0 _ m_94) (fun _ h9 => h9) rfl (by decide +kernel) rfl rfl (Nat.le_of_ble_eq_true rfl) d_FM_way_27 (fun H locs hP hD hS => ?_)
        have hP : va_P (dC, dI) cls [(a_p0, .inr (3, [.ref z_sum, .ref a_wiring, .ref a_picture])), (a_wiring, .inr (2, [.ref q_4, .ref q_5, .ref q_6, .ref q_7, .ref q_8, .int wiring_size, .int u_3.2.1])), (q_4, .inl (cI, 8, .inl wiring_told)), (q_5, .inl (cI, 8, .inl u_3.2.2.1)), (q_6, .inl (cI, 8, .inl u_3.2.2.2.1)), (q_7, .inl (cI, 8, .inl u_3.2.2.2.2.1)), (q_8, .inl (cI, 8, .inl u_3.2.2.2.2.2)), (a_picture, .inr (0, [.ref z_picture_flipsOf, .ref z_picture_termsAt, .ref z_picture_numbers, .ref z_picture_spread, .int 0, .int picture_held, .int picture_terms, .int picture_widest, .int picture_halvings, .int picture_foundSigns]))] H := hP
        have hD : va_D A [(a_p0, .inr (3, [.ref z_sum, .ref a_wiring, .ref a_picture])), (a_wiring, .inr (2, [.ref q_4, .ref q_5, .ref q_6, .ref q_7, .ref q_8, .int wiring_size, .int u_3.2.1])), (q_4, .inl (cI, 8, .inl wiring_told)), (q_5, .inl (cI, 8, .inl u_3.2.2.1)), (q_6, .inl (cI, 8, .inl u_3.2.2.2.1)), (q_7, .inl (cI, 8, .inl u_3.2.2.2.2.1)), (q_8, .inl (cI, 8, .inl u_3.2.2.2.2.2)), (a_picture, .inr (0, [.ref z_picture_flipsOf, .ref z_picture_termsAt, .ref z_picture_numbers, .ref z_picture_spread, .int 0, .int picture_held, .int picture_terms, .int picture_widest, .int picture_halvings, .int picture_foundSigns]))] := hD
        refine lv_iconst (v := 1) hx hb d_FM_way_30 (by decide) ?_
        have hu := Option.some.inj hf
        subst hu
        exact rw_z hQ rfl rfl ⟨a_wiring, q_4, q_5, q_6, q_7, q_8, a_picture, rfl⟩ hP hD hK hS hx hb hr hlocks d_FM_way_31
      · replace hf := if_t c_9 hf
        refine lv_iconst (v := 0) hx hb d_FM_way_20 (by decide) ?_
        have hu := Option.some.inj hf
        subst hu
        exact rw_z hQ rfl rfl ⟨a_wiring, q_4, q_5, q_6, q_7, q_8, a_picture, rfl⟩ hP hD hK hS hx hb hr hlocks d_FM_way_21

/-! FermionMaps.row(II)Z -/
def f_FM_row (F : Nat) (wiring_size : Int32) (wiring_kind : Int32) (wiring_told : Nat → Int32) (p1 : Int32) (p2 : Int32) : Option (Int32 × (Nat → Int32)) :=
  if p1 < 0 then
    some (0, wiring_told)
  else
    if wiring_size ≤ p1 then
      some (0, wiring_told)
    else
      (f_FM_isSet F wiring_size p2).bind fun u_3 =>
      if u_3 = 0 then
        some (0, wiring_told)
      else
        if wiring_kind = 3 then
          some (0, wiring_told)
        else
          ckI p1 8 <|
          some (1, (upd wiring_told p1.toNatClampNeg p2))
abbrev rm_FM_row : Room := { frames := 1, cells := 0, slots := 0, locals := 21 }
set_option maxHeartbeats 4000000 in
set_option maxRecDepth 100000 in
theorem c_FM_row (l : Launch) (dC : Nat → ClassId) (dI : Nat → Nat → Nat) (cI cJ : ClassId) (a_p0 a_wiring a_wiring_told z_sum z_picture z_wiring_rows z_wiring_back z_wiring_spareBack z_wiring_left : Nat) (sz : Nat) (wiring_size : Int32) (wiring_kind : Int32) (wiring_told : Nat → Int32) (p1 : Int32) (p2 : Int32) (F : Nat) (u : Int32 × (Nat → Int32)) (hf : f_FM_row F wiring_size wiring_kind wiring_told p1 p2 = some u) : Met l y_FM_row (Cond.code y_FM_row prog_1_method_9_code 3 (some .boolean) :: T0) rm_FM_row (va_Pc [.ref a_p0, .int p1, .int p2] (Ww (dC, dI) [(a_p0, .inr (3, [.ref z_sum, .ref a_wiring, .ref z_picture])), (a_wiring, .inr (2, [.ref a_wiring_told, .ref z_wiring_rows, .ref z_wiring_back, .ref z_wiring_spareBack, .ref z_wiring_left, .int wiring_size, .int wiring_kind])), (a_wiring_told, .inl (cI, 8, .inl wiring_told))] [(cI, .int), (cJ, .long)] sz)) (va_Qi (fun r (_ : Unit) => r = u.1) (Bw (dC, dI) [(cI, .int), (cJ, .long)] (va_A [(a_p0, .inr (3, [.ref z_sum, .ref a_wiring, .ref z_picture])), (a_wiring, .inr (2, [.ref a_wiring_told, .ref z_wiring_rows, .ref z_wiring_back, .ref z_wiring_spareBack, .ref z_wiring_left, .int wiring_size, .int wiring_kind])), (a_wiring_told, .inl (cI, 8, .inl wiring_told))] sz) (fun w1 => w1 = [(a_p0, .inr (3, [.ref z_sum, .ref a_wiring, .ref z_picture])), (a_wiring, .inr (2, [.ref a_wiring_told, .ref z_wiring_rows, .ref z_wiring_back, .ref z_wiring_spareBack, .ref z_wiring_left, .int wiring_size, .int wiring_kind])), (a_wiring_told, .inl (cI, 8, .inl u.2))])) (va_A [(a_p0, .inr (3, [.ref z_sum, .ref a_wiring, .ref z_picture])), (a_wiring, .inr (2, [.ref a_wiring_told, .ref z_wiring_rows, .ref z_wiring_back, .ref z_wiring_spareBack, .ref z_wiring_left, .int wiring_size, .int wiring_kind])), (a_wiring_told, .inl (cI, 8, .inl wiring_told))] sz)) 0 0 (va_A [(a_p0, .inr (3, [.ref z_sum, .ref a_wiring, .ref z_picture])), (a_wiring, .inr (2, [.ref a_wiring_told, .ref z_wiring_rows, .ref z_wiring_back, .ref z_wiring_spareBack, .ref z_wiring_left, .int wiring_size, .int wiring_kind])), (a_wiring_told, .inl (cI, 8, .inl wiring_told))] sz) := by
  refine Met.ofW (cc := prog_1_method_9_code) (maxL := 3) (ret := (some .boolean)) (by decide) rfl ?_
  intro p e s m args below meth c s₁ B hml hv
  obtain ⟨rfl, hsz, hP, hK, hD0, hNW⟩ := hv
  have hx := B.exec
  have hb := B.bytes
  have hr := B.returns
  have hts := atoms_spec (ws := Cond.code y_FM_row prog_1_method_9_code 3 (some .boolean) :: T0) B.pre
  have ht0 : ∀ w ∈ T0, w.before ([.ref a_p0, .int p1, .int p2] : List Value).toArray s = true := fun w h => hts w (List.mem_cons_of_mem _ h)
  have hown : s.vm.findClass "FermionMaps" = some m.cls := findClass_of_methodNamed B.named
  have hlocks := B.notSynchronized
  subst hsz
  have hD := hD0.self (sz := s.heap.size)
  generalize hAe : va_A [(a_p0, .inr (3, [.ref z_sum, .ref a_wiring, .ref z_picture])), (a_wiring, .inr (2, [.ref a_wiring_told, .ref z_wiring_rows, .ref z_wiring_back, .ref z_wiring_spareBack, .ref z_wiring_left, .int wiring_size, .int wiring_kind])), (a_wiring_told, .inl (cI, 8, .inl wiring_told))] s.heap.size = A at hD ⊢
  have hA : ∀ q : Nat, s.heap.size ≤ q → A q := fun q h => by rw [← hAe]; exact Or.inr h
  have hS : va_S A s.heap s.heap [] := va_S.rf
  have hl := lv_entry ([.ref a_p0, .int p1, .int p2]) (n := 3) (Nat.le_of_ble_eq_true rfl)
  rw [lg_entry_eq]
  generalize (lg_sl ([.ref a_p0, .int p1, .int p2]) ++ List.replicate (3 - (lg_sl ([.ref a_p0, .int p1, .int p2])).length) Slot.unset).toArray = ls at hl ⊢
  have hl : lv_has ls 3 [(0, .ref a_p0), (1, .int p1), (2, .int p2)] := hl
  refine W.nameQ (fun Q hQ => ?_)
  rw [f_FM_row] at hf
  refine lv_iload_n hx hb d_FM_row_0 rfl (lv_at hl 1 rfl) ?_
  refine lv_if_lt (tgt := 34) hx hb d_FM_row_1 (by decide) (fun c_1 => ?_) (fun c_1 => ?_)
  · replace hf := if_t c_1 hf
    refine lv_iconst (v := 0) hx hb d_FM_row_34 (by decide) ?_
    have hu := Option.some.inj hf
    subst hu
    exact rw_z hQ rfl rfl rfl hP hD hK hS hx hb hr hlocks d_FM_row_35
  · replace hf := if_f c_1 hf
    refine lv_iload_n hx hb d_FM_row_4 rfl (lv_at hl 1 rfl) ?_
    refine lv_aload_n hx hb d_FM_row_5 rfl (lv_at hl 0 rfl) ?_
    refine va_get (D := (dC, dI)) (ci := 3) (v := .ref a_wiring) (C := "FermionMaps") (T := F_FM) (N := 3) hx hb ht0 i_FM hown hK hP 0 rfl rfl 1 (by decide) (ht0 _ m_132) (fun _ h9 => h9) rfl d_FM_row_6 ?_
    refine va_get (D := (dC, dI)) (ci := 2) (v := .int wiring_size) (C := "FermionMaps$Wiring") (T := F_Wi) (N := 7) hx hb ht0 i_Wi hown hK hP 1 rfl rfl 5 (by decide) (ht0 _ m_65) (fun _ h9 => h9) rfl d_FM_row_9 ?_
    refine lv_icmp_ge (tgt := 34) hx hb d_FM_row_12 (by decide) (fun c_2 => ?_) (fun c_2 => ?_)
    · replace hf := if_t c_2 hf
      refine lv_iconst (v := 0) hx hb d_FM_row_34 (by decide) ?_
      have hu := Option.some.inj hf
      subst hu
      exact rw_z hQ rfl rfl rfl hP hD hK hS hx hb hr hlocks d_FM_row_35
    · replace hf := if_f c_2 hf
      refine lv_aload_n hx hb d_FM_row_15 rfl (lv_at hl 0 rfl) ?_
      refine lv_iload_n hx hb d_FM_row_16 rfl (lv_at hl 2 rfl) ?_
      obtain ⟨u_3, h_u_3, hf⟩ := bd hf
      refine rd_i (rdV_run (As := [.int p2]) (rest := []) ⟨hx, hb, hml, hown, ht0⟩ (c_FM_isSet l dC dI cI cJ a_p0 a_wiring z_sum z_picture a_wiring_told z_wiring_rows z_wiring_back z_wiring_spareBack z_wiring_left wiring_size wiring_kind p2 F u_3 h_u_3) (cwV 1 ht0 (gV m_149 m_151 (T0_pr (y := ⟨"FermionMaps", "isSet", "(I)Z"⟩) (i := 0) rfl rfl) m_1 m_152) rfl rfl rfl (by decide +kernel) ⟨Nat.le_of_ble_eq_true rfl, Nat.le_of_ble_eq_true rfl⟩) hK hNW hP [0, 1] rfl (ci := 3) (q0 := 0) rfl rfl rfl hl.1 rfl (Nat.le_of_ble_eq_true rfl) d_FM_row_17 ⟨Nat.zero_le _, Nat.zero_le _⟩) ?_
      refine lv_if_eq (tgt := 34) hx hb d_FM_row_20 (by decide) (fun c_4 => ?_) (fun c_4 => ?_)
      · replace hf := if_t c_4 hf
        refine lv_iconst (v := 0) hx hb d_FM_row_34 (by decide) ?_
        have hu := Option.some.inj hf
        subst hu
        exact rw_z hQ rfl rfl rfl hP hD hK hS hx hb hr hlocks d_FM_row_35
      · replace hf := if_f c_4 hf
        refine lv_aload_n hx hb d_FM_row_23 rfl (lv_at hl 0 rfl) ?_
        refine va_get (D := (dC, dI)) (ci := 3) (v := .ref a_wiring) (C := "FermionMaps") (T := F_FM) (N := 3) hx hb ht0 i_FM hown hK hP 0 rfl rfl 1 (by decide) (ht0 _ m_132) (fun _ h9 => h9) rfl d_FM_row_24 ?_
        refine va_get (D := (dC, dI)) (ci := 2) (v := .int wiring_kind) (C := "FermionMaps$Wiring") (T := F_Wi) (N := 7) hx hb ht0 i_Wi hown hK hP 1 rfl rfl 6 (by decide) (ht0 _ m_67) (fun _ h9 => h9) rfl d_FM_row_27 ?_
        refine lv_iconst (v := 3) hx hb d_FM_row_30 (by decide) ?_
        refine lv_icmp_ne (tgt := 36) hx hb d_FM_row_31 (by decide) (fun c_5 => ?_) (fun c_5 => ?_)
        · replace hf := if_f c_5 hf
          refine lv_aload_n hx hb d_FM_row_36 rfl (lv_at hl 0 rfl) ?_
          refine va_get (D := (dC, dI)) (ci := 3) (v := .ref a_wiring) (C := "FermionMaps") (T := F_FM) (N := 3) hx hb ht0 i_FM hown hK hP 0 rfl rfl 1 (by decide) (ht0 _ m_132) (fun _ h9 => h9) rfl d_FM_row_37 ?_
          refine va_get (D := (dC, dI)) (ci := 2) (v := .ref a_wiring_told) (C := "FermionMaps$Wiring") (T := F_Wi) (N := 7) hx hb ht0 i_Wi hown hK hP 1 rfl rfl 0 (by decide) (ht0 _ m_54) (fun _ h9 => h9) rfl d_FM_row_40 ?_
          refine lv_iload_n hx hb d_FM_row_43 rfl (lv_at hl 1 rfl) ?_
          refine lv_iload_n hx hb d_FM_row_44 rfl (lv_at hl 2 rfl) ?_
          obtain ⟨hi_6, hf⟩ := ckI_ok hf
          refine va_iast hx hb hK hP hD hS 2 0 rfl rfl hi_6 d_FM_row_45 (fun H locs hP hD hS => ?_)
          have hP : va_P (dC, dI) cls [(a_p0, .inr (3, [.ref z_sum, .ref a_wiring, .ref z_picture])), (a_wiring, .inr (2, [.ref a_wiring_told, .ref z_wiring_rows, .ref z_wiring_back, .ref z_wiring_spareBack, .ref z_wiring_left, .int wiring_size, .int wiring_kind])), (a_wiring_told, .inl (cI, 8, .inl (upd wiring_told p1.toNatClampNeg p2)))] H := hP
          have hD : va_D A [(a_p0, .inr (3, [.ref z_sum, .ref a_wiring, .ref z_picture])), (a_wiring, .inr (2, [.ref a_wiring_told, .ref z_wiring_rows, .ref z_wiring_back, .ref z_wiring_spareBack, .ref z_wiring_left, .int wiring_size, .int wiring_kind])), (a_wiring_told, .inl (cI, 8, .inl (upd wiring_told p1.toNatClampNeg p2)))] := hD
          refine lv_iconst (v := 1) hx hb d_FM_row_46 (by decide) ?_
          have hu := Option.some.inj hf
          subst hu
          exact rw_z hQ rfl rfl rfl hP hD hK hS hx hb hr hlocks d_FM_row_47
        · replace hf := if_t c_5 hf
          refine lv_iconst (v := 0) hx hb d_FM_row_34 (by decide) ?_
          have hu := Option.some.inj hf
          subst hu
          exact rw_z hQ rfl rfl rfl hP hD hK hS hx hb hr hlocks d_FM_row_35

/-! FermionMaps.written(I)I -/
def f_FM_written (F : Nat) (wiring_size : Int32) (wiring_rows : Nat → Int32) (p1 : Int32) : Option (Int32) :=
  (f_FM_isSet F wiring_size p1).bind fun u_1 =>
  if u_1 = 0 then
    some ((-1))
  else
    (f_Wi_bits F wiring_size wiring_rows p1).bind fun u_3 =>
    some (u_3)
abbrev rm_FM_written : Room := { frames := 3, cells := 0, slots := 0, locals := 64 }
set_option maxHeartbeats 4000000 in
set_option maxRecDepth 100000 in
theorem c_FM_written (l : Launch) (dC : Nat → ClassId) (dI : Nat → Nat → Nat) (cI cJ : ClassId) (a_p0 a_wiring a_wiring_rows z_sum z_picture z_wiring_told z_wiring_back z_wiring_spareBack z_wiring_left : Nat) (wiring_size : Int32) (wiring_kind : Int32) (wiring_rows : Nat → Int32) (p1 : Int32) (F : Nat) (u : Int32) (hf : f_FM_written F wiring_size wiring_rows p1 = some u) : Met l y_FM_written (Cond.code y_FM_written prog_1_method_10_code 2 (some .int) :: T0) rm_FM_written (va_Pc [.ref a_p0, .int p1] (Wr (dC, dI) [(a_p0, .inr (3, [.ref z_sum, .ref a_wiring, .ref z_picture])), (a_wiring, .inr (2, [.ref z_wiring_told, .ref a_wiring_rows, .ref z_wiring_back, .ref z_wiring_spareBack, .ref z_wiring_left, .int wiring_size, .int wiring_kind])), (a_wiring_rows, .inl (cI, 8, .inl wiring_rows))] [(cI, .int), (cJ, .long)])) (vp_Si (fun r => r = u)) 0 0 (fun _ => False) := by
  refine Met.ofW (cc := prog_1_method_10_code) (maxL := 2) (ret := (some .int)) (by decide) rfl ?_
  intro p e s m args below meth c s₁ B hml hv
  obtain ⟨rfl, hP, hK, hNW⟩ := hv
  have hx := B.exec
  have hb := B.bytes
  have hr := B.returns
  have hts := atoms_spec (ws := Cond.code y_FM_written prog_1_method_10_code 2 (some .int) :: T0) B.pre
  have ht0 : ∀ w ∈ T0, w.before ([.ref a_p0, .int p1] : List Value).toArray s = true := fun w h => hts w (List.mem_cons_of_mem _ h)
  have hown : s.vm.findClass "FermionMaps" = some m.cls := findClass_of_methodNamed B.named
  have hlocks := B.notSynchronized
  have hl := lv_entry ([.ref a_p0, .int p1]) (n := 2) (Nat.le_of_ble_eq_true rfl)
  rw [lg_entry_eq]
  generalize (lg_sl ([.ref a_p0, .int p1]) ++ List.replicate (2 - (lg_sl ([.ref a_p0, .int p1])).length) Slot.unset).toArray = ls at hl ⊢
  have hl : lv_has ls 2 [(0, .ref a_p0), (1, .int p1)] := hl
  refine W.nameQ (fun Q hQ => ?_)
  rw [f_FM_written] at hf
  refine lv_aload_n hx hb d_FM_written_0 rfl (lv_at hl 0 rfl) ?_
  refine lv_iload_n hx hb d_FM_written_1 rfl (lv_at hl 1 rfl) ?_
  obtain ⟨u_1, h_u_1, hf⟩ := bd hf
  refine rd_i (rdV_run (As := [.int p1]) (rest := []) ⟨hx, hb, hml, hown, ht0⟩ (c_FM_isSet l dC dI cI cJ a_p0 a_wiring z_sum z_picture z_wiring_told a_wiring_rows z_wiring_back z_wiring_spareBack z_wiring_left wiring_size wiring_kind p1 F u_1 h_u_1) (cwV 1 ht0 (gV m_149 m_151 (T0_pr (y := ⟨"FermionMaps", "isSet", "(I)Z"⟩) (i := 0) rfl rfl) m_1 m_152) rfl rfl rfl (by decide +kernel) ⟨Nat.le_of_ble_eq_true rfl, Nat.le_of_ble_eq_true rfl⟩) hK hNW hP [0, 1] rfl (ci := 3) (q0 := 0) rfl rfl rfl hl.1 rfl (Nat.le_of_ble_eq_true rfl) d_FM_written_2 ⟨Nat.zero_le _, Nat.zero_le _⟩) ?_
  refine lv_if_eq (tgt := 26) hx hb d_FM_written_5 (by decide) (fun c_2 => ?_) (fun c_2 => ?_)
  · replace hf := if_t c_2 hf
    refine lv_iconst (v := (-1)) hx hb d_FM_written_26 (by decide) ?_
    have hu := Option.some.inj hf
    subst hu
    exact rt_i hQ rfl hx hb hr hlocks d_FM_written_27
  · replace hf := if_f c_2 hf
    refine lv_aload_n hx hb d_FM_written_8 rfl (lv_at hl 0 rfl) ?_
    refine va_get (D := (dC, dI)) (ci := 3) (v := .ref a_wiring) (C := "FermionMaps") (T := F_FM) (N := 3) hx hb ht0 i_FM hown hK hP 0 rfl rfl 1 (by decide) (ht0 _ m_132) (fun _ h9 => h9) rfl d_FM_written_9 ?_
    refine lv_aload_n hx hb d_FM_written_12 rfl (lv_at hl 0 rfl) ?_
    refine va_get (D := (dC, dI)) (ci := 3) (v := .ref a_wiring) (C := "FermionMaps") (T := F_FM) (N := 3) hx hb ht0 i_FM hown hK hP 0 rfl rfl 1 (by decide) (ht0 _ m_132) (fun _ h9 => h9) rfl d_FM_written_13 ?_
    refine va_get (D := (dC, dI)) (ci := 2) (v := .ref a_wiring_rows) (C := "FermionMaps$Wiring") (T := F_Wi) (N := 7) hx hb ht0 i_Wi hown hK hP 1 rfl rfl 1 (by decide) (ht0 _ m_57) (fun _ h9 => h9) rfl d_FM_written_16 ?_
    refine lv_iload_n hx hb d_FM_written_19 rfl (lv_at hl 1 rfl) ?_
    obtain ⟨u_3, h_u_3, hf⟩ := bd hf
    refine rd_i (rdV_run (As := [.ref a_wiring_rows, .int p1]) (rest := []) ⟨hx, hb, hml, hown, ht0⟩ (c_Wi_bits l dC dI cI cJ a_wiring a_wiring_rows z_wiring_told a_wiring_rows z_wiring_back z_wiring_spareBack z_wiring_left wiring_size wiring_kind wiring_rows p1 F u_3 h_u_3) (cwV 2 ht0 (gV m_248 m_249 m_250 m_3 m_251) rfl rfl rfl (by decide +kernel) ⟨Nat.le_of_ble_eq_true rfl, Nat.le_of_ble_eq_true rfl⟩) hK hNW hP [1, 2] rfl (ci := 2) (q0 := 1) rfl rfl rfl hl.1 rfl (Nat.le_of_ble_eq_true rfl) d_FM_written_20 ⟨Nat.zero_le _, Nat.zero_le _⟩) ?_
    refine lv_goto (tgt := 27) hx hb d_FM_written_23 (by decide) ?_
    have hu := Option.some.inj hf
    subst hu
    exact rt_i hQ rfl hx hb hr hlocks d_FM_written_27

/-! FermionMaps.read(I)I -/
def f_FM_read (F : Nat) (wiring_size : Int32) (wiring_back : Nat → Int32) (p1 : Int32) : Option (Int32) :=
  (f_FM_isSet F wiring_size p1).bind fun u_1 =>
  if u_1 = 0 then
    some ((-1))
  else
    (f_Wi_bits F wiring_size wiring_back p1).bind fun u_3 =>
    some (u_3)
abbrev rm_FM_read : Room := { frames := 3, cells := 0, slots := 0, locals := 64 }
set_option maxHeartbeats 4000000 in
set_option maxRecDepth 100000 in
theorem c_FM_read (l : Launch) (dC : Nat → ClassId) (dI : Nat → Nat → Nat) (cI cJ : ClassId) (a_p0 a_wiring a_wiring_back z_sum z_picture z_wiring_told z_wiring_rows z_wiring_spareBack z_wiring_left : Nat) (wiring_size : Int32) (wiring_kind : Int32) (wiring_back : Nat → Int32) (p1 : Int32) (F : Nat) (u : Int32) (hf : f_FM_read F wiring_size wiring_back p1 = some u) : Met l y_FM_read (Cond.code y_FM_read prog_1_method_11_code 2 (some .int) :: T0) rm_FM_read (va_Pc [.ref a_p0, .int p1] (Wr (dC, dI) [(a_p0, .inr (3, [.ref z_sum, .ref a_wiring, .ref z_picture])), (a_wiring, .inr (2, [.ref z_wiring_told, .ref z_wiring_rows, .ref a_wiring_back, .ref z_wiring_spareBack, .ref z_wiring_left, .int wiring_size, .int wiring_kind])), (a_wiring_back, .inl (cI, 8, .inl wiring_back))] [(cI, .int), (cJ, .long)])) (vp_Si (fun r => r = u)) 0 0 (fun _ => False) := by
  refine Met.ofW (cc := prog_1_method_11_code) (maxL := 2) (ret := (some .int)) (by decide) rfl ?_
  intro p e s m args below meth c s₁ B hml hv
  obtain ⟨rfl, hP, hK, hNW⟩ := hv
  have hx := B.exec
  have hb := B.bytes
  have hr := B.returns
  have hts := atoms_spec (ws := Cond.code y_FM_read prog_1_method_11_code 2 (some .int) :: T0) B.pre
  have ht0 : ∀ w ∈ T0, w.before ([.ref a_p0, .int p1] : List Value).toArray s = true := fun w h => hts w (List.mem_cons_of_mem _ h)
  have hown : s.vm.findClass "FermionMaps" = some m.cls := findClass_of_methodNamed B.named
  have hlocks := B.notSynchronized
  have hl := lv_entry ([.ref a_p0, .int p1]) (n := 2) (Nat.le_of_ble_eq_true rfl)
  rw [lg_entry_eq]
  generalize (lg_sl ([.ref a_p0, .int p1]) ++ List.replicate (2 - (lg_sl ([.ref a_p0, .int p1])).length) Slot.unset).toArray = ls at hl ⊢
  have hl : lv_has ls 2 [(0, .ref a_p0), (1, .int p1)] := hl
  refine W.nameQ (fun Q hQ => ?_)
  rw [f_FM_read] at hf
  refine lv_aload_n hx hb d_FM_read_0 rfl (lv_at hl 0 rfl) ?_
  refine lv_iload_n hx hb d_FM_read_1 rfl (lv_at hl 1 rfl) ?_
  obtain ⟨u_1, h_u_1, hf⟩ := bd hf
  refine rd_i (rdV_run (As := [.int p1]) (rest := []) ⟨hx, hb, hml, hown, ht0⟩ (c_FM_isSet l dC dI cI cJ a_p0 a_wiring z_sum z_picture z_wiring_told z_wiring_rows a_wiring_back z_wiring_spareBack z_wiring_left wiring_size wiring_kind p1 F u_1 h_u_1) (cwV 1 ht0 (gV m_149 m_151 (T0_pr (y := ⟨"FermionMaps", "isSet", "(I)Z"⟩) (i := 0) rfl rfl) m_1 m_152) rfl rfl rfl (by decide +kernel) ⟨Nat.le_of_ble_eq_true rfl, Nat.le_of_ble_eq_true rfl⟩) hK hNW hP [0, 1] rfl (ci := 3) (q0 := 0) rfl rfl rfl hl.1 rfl (Nat.le_of_ble_eq_true rfl) d_FM_read_2 ⟨Nat.zero_le _, Nat.zero_le _⟩) ?_
  refine lv_if_eq (tgt := 26) hx hb d_FM_read_5 (by decide) (fun c_2 => ?_) (fun c_2 => ?_)
  · replace hf := if_t c_2 hf
    refine lv_iconst (v := (-1)) hx hb d_FM_read_26 (by decide) ?_
    have hu := Option.some.inj hf
    subst hu
    exact rt_i hQ rfl hx hb hr hlocks d_FM_read_27
  · replace hf := if_f c_2 hf
    refine lv_aload_n hx hb d_FM_read_8 rfl (lv_at hl 0 rfl) ?_
    refine va_get (D := (dC, dI)) (ci := 3) (v := .ref a_wiring) (C := "FermionMaps") (T := F_FM) (N := 3) hx hb ht0 i_FM hown hK hP 0 rfl rfl 1 (by decide) (ht0 _ m_132) (fun _ h9 => h9) rfl d_FM_read_9 ?_
    refine lv_aload_n hx hb d_FM_read_12 rfl (lv_at hl 0 rfl) ?_
    refine va_get (D := (dC, dI)) (ci := 3) (v := .ref a_wiring) (C := "FermionMaps") (T := F_FM) (N := 3) hx hb ht0 i_FM hown hK hP 0 rfl rfl 1 (by decide) (ht0 _ m_132) (fun _ h9 => h9) rfl d_FM_read_13 ?_
    refine va_get (D := (dC, dI)) (ci := 2) (v := .ref a_wiring_back) (C := "FermionMaps$Wiring") (T := F_Wi) (N := 7) hx hb ht0 i_Wi hown hK hP 1 rfl rfl 2 (by decide) (ht0 _ m_60) (fun _ h9 => h9) rfl d_FM_read_16 ?_
    refine lv_iload_n hx hb d_FM_read_19 rfl (lv_at hl 1 rfl) ?_
    obtain ⟨u_3, h_u_3, hf⟩ := bd hf
    refine rd_i (rdV_run (As := [.ref a_wiring_back, .int p1]) (rest := []) ⟨hx, hb, hml, hown, ht0⟩ (c_Wi_bits l dC dI cI cJ a_wiring a_wiring_back z_wiring_told z_wiring_rows a_wiring_back z_wiring_spareBack z_wiring_left wiring_size wiring_kind wiring_back p1 F u_3 h_u_3) (cwV 2 ht0 (gV m_248 m_249 m_250 m_3 m_251) rfl rfl rfl (by decide +kernel) ⟨Nat.le_of_ble_eq_true rfl, Nat.le_of_ble_eq_true rfl⟩) hK hNW hP [1, 2] rfl (ci := 2) (q0 := 1) rfl rfl rfl hl.1 rfl (Nat.le_of_ble_eq_true rfl) d_FM_read_20 ⟨Nat.zero_le _, Nat.zero_le _⟩) ?_
    refine lv_goto (tgt := 27) hx hb d_FM_read_23 (by decide) ?_
    have hu := Option.some.inj hf
    subst hu
    exact rt_i hQ rfl hx hb hr hlocks d_FM_read_27

/-! FermionMaps.total(I)I -/
def f_FM_total (F : Nat) (sum_count : Int32) (sum_keys : Nat → Int32) (sum_numbers : Nat → Int32) (wiring_size : Int32) (wiring_kind : Int32) (wiring_rows : Nat → Int32) (wiring_back : Nat → Int32) (picture_drawn : Int32) (picture_held : Int32) (picture_terms : Int32) (picture_widest : Int32) (picture_halvings : Int32) (picture_flipsOf : Nat → Int32) (picture_termsAt : Nat → Int32) (picture_numbers : Nat → Int64) (picture_spread : Nat → Int32) (p1 : Int32) : Option (Int32 × Int32 × Int32 × Int32 × Int32 × Int32 × (Nat → Int32) × (Nat → Int32) × (Nat → Int64) × (Nat → Int32)) :=
  if p1 = 0 then
    some (wiring_size, picture_drawn, picture_held, picture_terms, picture_widest, picture_halvings, picture_flipsOf, picture_termsAt, picture_numbers, picture_spread)
  else
    if p1 = 1 then
      some (sum_count, picture_drawn, picture_held, picture_terms, picture_widest, picture_halvings, picture_flipsOf, picture_termsAt, picture_numbers, picture_spread)
    else
      if p1 = 2 then
        some (wiring_kind, picture_drawn, picture_held, picture_terms, picture_widest, picture_halvings, picture_flipsOf, picture_termsAt, picture_numbers, picture_spread)
      else
        if p1 = 3 then
          (f_Pi_draw F picture_drawn picture_held picture_terms picture_widest picture_halvings picture_flipsOf picture_termsAt picture_numbers picture_spread sum_count sum_keys sum_numbers wiring_size wiring_rows wiring_back).bind fun u_5 =>
          some (u_5.2.2.2.1, u_5.1, u_5.2.1, u_5.2.2.1, u_5.2.2.2.1, u_5.2.2.2.2.1, u_5.2.2.2.2.2.1, u_5.2.2.2.2.2.2.1, u_5.2.2.2.2.2.2.2.1, u_5.2.2.2.2.2.2.2.2)
        else
          if p1 = 4 then
            (f_Su_isEven F sum_count sum_keys).bind fun u_7 =>
            if u_7 = 0 then
              some (0, picture_drawn, picture_held, picture_terms, picture_widest, picture_halvings, picture_flipsOf, picture_termsAt, picture_numbers, picture_spread)
            else
              some (1, picture_drawn, picture_held, picture_terms, picture_widest, picture_halvings, picture_flipsOf, picture_termsAt, picture_numbers, picture_spread)
          else
            some ((-1), picture_drawn, picture_held, picture_terms, picture_widest, picture_halvings, picture_flipsOf, picture_termsAt, picture_numbers, picture_spread)
abbrev rm_FM_total : Room := { frames := 6, cells := 0, slots := 0, locals := 142 }
set_option maxHeartbeats 4000000 in
set_option maxRecDepth 100000 in
theorem c_FM_total (l : Launch) (dC : Nat → ClassId) (dI : Nat → Nat → Nat) (cI cJ : ClassId) (a_p0 a_sum a_sum_keys a_sum_numbers a_wiring a_wiring_rows a_wiring_back a_picture a_picture_flipsOf a_picture_termsAt a_picture_numbers a_picture_spread z_sum_spareKeys z_sum_spareNumbers z_wiring_told z_wiring_spareBack z_wiring_left : Nat) (sz : Nat) (sum_count : Int32) (sum_keys : Nat → Int32) (sum_numbers : Nat → Int32) (wiring_size : Int32) (wiring_kind : Int32) (wiring_rows : Nat → Int32) (wiring_back : Nat → Int32) (picture_drawn : Int32) (picture_held : Int32) (picture_terms : Int32) (picture_widest : Int32) (picture_halvings : Int32) (picture_foundSigns : Int32) (picture_flipsOf : Nat → Int32) (picture_termsAt : Nat → Int32) (picture_numbers : Nat → Int64) (picture_spread : Nat → Int32) (p1 : Int32) (F : Nat) (u : Int32 × Int32 × Int32 × Int32 × Int32 × Int32 × (Nat → Int32) × (Nat → Int32) × (Nat → Int64) × (Nat → Int32)) (hf : f_FM_total F sum_count sum_keys sum_numbers wiring_size wiring_kind wiring_rows wiring_back picture_drawn picture_held picture_terms picture_widest picture_halvings picture_flipsOf picture_termsAt picture_numbers picture_spread p1 = some u) : Met l y_FM_total (Cond.code y_FM_total prog_1_method_13_code 2 (some .int) :: T0) rm_FM_total (va_Pc [.ref a_p0, .int p1] (Ww (dC, dI) [(a_p0, .inr (3, [.ref a_sum, .ref a_wiring, .ref a_picture])), (a_sum, .inr (1, [.ref a_sum_keys, .ref a_sum_numbers, .ref z_sum_spareKeys, .ref z_sum_spareNumbers, .int sum_count])), (a_sum_keys, .inl (cI, 60, .inl sum_keys)), (a_sum_numbers, .inl (cI, 60, .inl sum_numbers)), (a_wiring, .inr (2, [.ref z_wiring_told, .ref a_wiring_rows, .ref a_wiring_back, .ref z_wiring_spareBack, .ref z_wiring_left, .int wiring_size, .int wiring_kind])), (a_wiring_rows, .inl (cI, 8, .inl wiring_rows)), (a_wiring_back, .inl (cI, 8, .inl wiring_back)), (a_picture, .inr (0, [.ref a_picture_flipsOf, .ref a_picture_termsAt, .ref a_picture_numbers, .ref a_picture_spread, .int picture_drawn, .int picture_held, .int picture_terms, .int picture_widest, .int picture_halvings, .int picture_foundSigns])), (a_picture_flipsOf, .inl (cI, 60, .inl picture_flipsOf)), (a_picture_termsAt, .inl (cI, 256, .inl picture_termsAt)), (a_picture_numbers, .inl (cJ, 256, .inr (.inl picture_numbers))), (a_picture_spread, .inl (cI, 256, .inl picture_spread))] [(cI, .int), (cJ, .long)] sz)) (va_Qi (fun r (_ : Unit) => r = u.1) (Bw (dC, dI) [(cI, .int), (cJ, .long)] (va_A [(a_p0, .inr (3, [.ref a_sum, .ref a_wiring, .ref a_picture])), (a_sum, .inr (1, [.ref a_sum_keys, .ref a_sum_numbers, .ref z_sum_spareKeys, .ref z_sum_spareNumbers, .int sum_count])), (a_sum_keys, .inl (cI, 60, .inl sum_keys)), (a_sum_numbers, .inl (cI, 60, .inl sum_numbers)), (a_wiring, .inr (2, [.ref z_wiring_told, .ref a_wiring_rows, .ref a_wiring_back, .ref z_wiring_spareBack, .ref z_wiring_left, .int wiring_size, .int wiring_kind])), (a_wiring_rows, .inl (cI, 8, .inl wiring_rows)), (a_wiring_back, .inl (cI, 8, .inl wiring_back)), (a_picture, .inr (0, [.ref a_picture_flipsOf, .ref a_picture_termsAt, .ref a_picture_numbers, .ref a_picture_spread, .int picture_drawn, .int picture_held, .int picture_terms, .int picture_widest, .int picture_halvings, .int picture_foundSigns])), (a_picture_flipsOf, .inl (cI, 60, .inl picture_flipsOf)), (a_picture_termsAt, .inl (cI, 256, .inl picture_termsAt)), (a_picture_numbers, .inl (cJ, 256, .inr (.inl picture_numbers))), (a_picture_spread, .inl (cI, 256, .inl picture_spread))] sz) (fun w1 => w1 = [(a_p0, .inr (3, [.ref a_sum, .ref a_wiring, .ref a_picture])), (a_sum, .inr (1, [.ref a_sum_keys, .ref a_sum_numbers, .ref z_sum_spareKeys, .ref z_sum_spareNumbers, .int sum_count])), (a_sum_keys, .inl (cI, 60, .inl sum_keys)), (a_sum_numbers, .inl (cI, 60, .inl sum_numbers)), (a_wiring, .inr (2, [.ref z_wiring_told, .ref a_wiring_rows, .ref a_wiring_back, .ref z_wiring_spareBack, .ref z_wiring_left, .int wiring_size, .int wiring_kind])), (a_wiring_rows, .inl (cI, 8, .inl wiring_rows)), (a_wiring_back, .inl (cI, 8, .inl wiring_back)), (a_picture, .inr (0, [.ref a_picture_flipsOf, .ref a_picture_termsAt, .ref a_picture_numbers, .ref a_picture_spread, .int u.2.1, .int u.2.2.1, .int u.2.2.2.1, .int u.2.2.2.2.1, .int u.2.2.2.2.2.1, .int picture_foundSigns])), (a_picture_flipsOf, .inl (cI, 60, .inl u.2.2.2.2.2.2.1)), (a_picture_termsAt, .inl (cI, 256, .inl u.2.2.2.2.2.2.2.1)), (a_picture_numbers, .inl (cJ, 256, .inr (.inl u.2.2.2.2.2.2.2.2.1))), (a_picture_spread, .inl (cI, 256, .inl u.2.2.2.2.2.2.2.2.2))])) (va_A [(a_p0, .inr (3, [.ref a_sum, .ref a_wiring, .ref a_picture])), (a_sum, .inr (1, [.ref a_sum_keys, .ref a_sum_numbers, .ref z_sum_spareKeys, .ref z_sum_spareNumbers, .int sum_count])), (a_sum_keys, .inl (cI, 60, .inl sum_keys)), (a_sum_numbers, .inl (cI, 60, .inl sum_numbers)), (a_wiring, .inr (2, [.ref z_wiring_told, .ref a_wiring_rows, .ref a_wiring_back, .ref z_wiring_spareBack, .ref z_wiring_left, .int wiring_size, .int wiring_kind])), (a_wiring_rows, .inl (cI, 8, .inl wiring_rows)), (a_wiring_back, .inl (cI, 8, .inl wiring_back)), (a_picture, .inr (0, [.ref a_picture_flipsOf, .ref a_picture_termsAt, .ref a_picture_numbers, .ref a_picture_spread, .int picture_drawn, .int picture_held, .int picture_terms, .int picture_widest, .int picture_halvings, .int picture_foundSigns])), (a_picture_flipsOf, .inl (cI, 60, .inl picture_flipsOf)), (a_picture_termsAt, .inl (cI, 256, .inl picture_termsAt)), (a_picture_numbers, .inl (cJ, 256, .inr (.inl picture_numbers))), (a_picture_spread, .inl (cI, 256, .inl picture_spread))] sz)) 0 0 (va_A [(a_p0, .inr (3, [.ref a_sum, .ref a_wiring, .ref a_picture])), (a_sum, .inr (1, [.ref a_sum_keys, .ref a_sum_numbers, .ref z_sum_spareKeys, .ref z_sum_spareNumbers, .int sum_count])), (a_sum_keys, .inl (cI, 60, .inl sum_keys)), (a_sum_numbers, .inl (cI, 60, .inl sum_numbers)), (a_wiring, .inr (2, [.ref z_wiring_told, .ref a_wiring_rows, .ref a_wiring_back, .ref z_wiring_spareBack, .ref z_wiring_left, .int wiring_size, .int wiring_kind])), (a_wiring_rows, .inl (cI, 8, .inl wiring_rows)), (a_wiring_back, .inl (cI, 8, .inl wiring_back)), (a_picture, .inr (0, [.ref a_picture_flipsOf, .ref a_picture_termsAt, .ref a_picture_numbers, .ref a_picture_spread, .int picture_drawn, .int picture_held, .int picture_terms, .int picture_widest, .int picture_halvings, .int picture_foundSigns])), (a_picture_flipsOf, .inl (cI, 60, .inl picture_flipsOf)), (a_picture_termsAt, .inl (cI, 256, .inl picture_termsAt)), (a_picture_numbers, .inl (cJ, 256, .inr (.inl picture_numbers))), (a_picture_spread, .inl (cI, 256, .inl picture_spread))] sz) := by
  refine Met.ofW (cc := prog_1_method_13_code) (maxL := 2) (ret := (some .int)) (by decide) rfl ?_
  intro p e s m args below meth c s₁ B hml hv
  obtain ⟨rfl, hsz, hP, hK, hD0, hNW⟩ := hv
  have hx := B.exec
  have hb := B.bytes
  have hr := B.returns
  have hts := atoms_spec (ws := Cond.code y_FM_total prog_1_method_13_code 2 (some .int) :: T0) B.pre
  have ht0 : ∀ w ∈ T0, w.before ([.ref a_p0, .int p1] : List Value).toArray s = true := fun w h => hts w (List.mem_cons_of_mem _ h)
  have hown : s.vm.findClass "FermionMaps" = some m.cls := findClass_of_methodNamed B.named
  have hlocks := B.notSynchronized
  subst hsz
  have hD := hD0.self (sz := s.heap.size)
  generalize hAe : va_A [(a_p0, .inr (3, [.ref a_sum, .ref a_wiring, .ref a_picture])), (a_sum, .inr (1, [.ref a_sum_keys, .ref a_sum_numbers, .ref z_sum_spareKeys, .ref z_sum_spareNumbers, .int sum_count])), (a_sum_keys, .inl (cI, 60, .inl sum_keys)), (a_sum_numbers, .inl (cI, 60, .inl sum_numbers)), (a_wiring, .inr (2, [.ref z_wiring_told, .ref a_wiring_rows, .ref a_wiring_back, .ref z_wiring_spareBack, .ref z_wiring_left, .int wiring_size, .int wiring_kind])), (a_wiring_rows, .inl (cI, 8, .inl wiring_rows)), (a_wiring_back, .inl (cI, 8, .inl wiring_back)), (a_picture, .inr (0, [.ref a_picture_flipsOf, .ref a_picture_termsAt, .ref a_picture_numbers, .ref a_picture_spread, .int picture_drawn, .int picture_held, .int picture_terms, .int picture_widest, .int picture_halvings, .int picture_foundSigns])), (a_picture_flipsOf, .inl (cI, 60, .inl picture_flipsOf)), (a_picture_termsAt, .inl (cI, 256, .inl picture_termsAt)), (a_picture_numbers, .inl (cJ, 256, .inr (.inl picture_numbers))), (a_picture_spread, .inl (cI, 256, .inl picture_spread))] s.heap.size = A at hD ⊢
  have hA : ∀ q : Nat, s.heap.size ≤ q → A q := fun q h => by rw [← hAe]; exact Or.inr h
  have hS : va_S A s.heap s.heap [] := va_S.rf
  have hl := lv_entry ([.ref a_p0, .int p1]) (n := 2) (Nat.le_of_ble_eq_true rfl)
  rw [lg_entry_eq]
  generalize (lg_sl ([.ref a_p0, .int p1]) ++ List.replicate (2 - (lg_sl ([.ref a_p0, .int p1])).length) Slot.unset).toArray = ls at hl ⊢
  have hl : lv_has ls 2 [(0, .ref a_p0), (1, .int p1)] := hl
  refine W.nameQ (fun Q hQ => ?_)
  rw [f_FM_total] at hf
  refine lv_iload_n hx hb d_FM_total_0 rfl (lv_at hl 1 rfl) ?_
  by_cases c_1 : p1 = 0
  · replace hf := if_t c_1 hf
    refine lv_tableIn (off := 35) (tgt := 36) hx hb d_FM_total_1 (by rw [c_1]; decide) (by rw [c_1]; decide) (by rw [c_1]; rfl) (by decide) ?_
    refine lv_aload_n hx hb d_FM_total_36 rfl (lv_at hl 0 rfl) ?_
    refine va_get (D := (dC, dI)) (ci := 3) (v := .ref a_wiring) (C := "FermionMaps") (T := F_FM) (N := 3) hx hb ht0 i_FM hown hK hP 0 rfl rfl 1 (by decide) (ht0 _ m_132) (fun _ h9 => h9) rfl d_FM_total_37 ?_
    refine va_get (D := (dC, dI)) (ci := 2) (v := .int wiring_size) (C := "FermionMaps$Wiring") (T := F_Wi) (N := 7) hx hb ht0 i_Wi hown hK hP 4 rfl rfl 5 (by decide) (ht0 _ m_65) (fun _ h9 => h9) rfl d_FM_total_40 ?_
    have hu := Option.some.inj hf
    subst hu
    exact rw_i hQ rfl rfl hP hD hK hS hx hb hr hlocks d_FM_total_43
  · replace hf := if_f c_1 hf
    by_cases c_2 : p1 = 1
    · replace hf := if_t c_2 hf
      refine lv_tableIn (off := 43) (tgt := 44) hx hb d_FM_total_1 (by rw [c_2]; decide) (by rw [c_2]; decide) (by rw [c_2]; rfl) (by decide) ?_
      refine lv_aload_n hx hb d_FM_total_44 rfl (lv_at hl 0 rfl) ?_
      refine va_get (D := (dC, dI)) (ci := 3) (v := .ref a_sum) (C := "FermionMaps") (T := F_FM) (N := 3) hx hb ht0 i_FM hown hK hP 0 rfl rfl 0 (by decide) (ht0 _ m_131) (fun _ h9 => h9) rfl d_FM_total_45 ?_
      refine va_get (D := (dC, dI)) (ci := 1) (v := .int sum_count) (C := "FermionMaps$Sum") (T := F_Su) (N := 5) hx hb ht0 i_Su hown hK hP 1 rfl rfl 4 (by decide) (ht0 _ m_33) (fun _ h9 => h9) rfl d_FM_total_48 ?_
      have hu := Option.some.inj hf
      subst hu
      exact rw_i hQ rfl rfl hP hD hK hS hx hb hr hlocks d_FM_total_51
    · replace hf := if_f c_2 hf
      by_cases c_3 : p1 = 2
      · replace hf := if_t c_3 hf
        refine lv_tableIn (off := 51) (tgt := 52) hx hb d_FM_total_1 (by rw [c_3]; decide) (by rw [c_3]; decide) (by rw [c_3]; rfl) (by decide) ?_
        refine lv_aload_n hx hb d_FM_total_52 rfl (lv_at hl 0 rfl) ?_
        refine va_get (D := (dC, dI)) (ci := 3) (v := .ref a_wiring) (C := "FermionMaps") (T := F_FM) (N := 3) hx hb ht0 i_FM hown hK hP 0 rfl rfl 1 (by decide) (ht0 _ m_132) (fun _ h9 => h9) rfl d_FM_total_53 ?_
        refine va_get (D := (dC, dI)) (ci := 2) (v := .int wiring_kind) (C := "FermionMaps$Wiring") (T := F_Wi) (N := 7) hx hb ht0 i_Wi hown hK hP 4 rfl rfl 6 (by decide) (ht0 _ m_67) (fun _ h9 => h9) rfl d_FM_total_56 ?_
        have hu := Option.some.inj hf
        subst hu
        exact rw_i hQ rfl rfl hP hD hK hS hx hb hr hlocks d_FM_total_59
      · replace hf := if_f c_3 hf
        by_cases c_4 : p1 = 3
        · replace hf := if_t c_4 hf
          refine lv_tableIn (off := 59) (tgt := 60) hx hb d_FM_total_1 (by rw [c_4]; decide) (by rw [c_4]; decide) (by rw [c_4]; rfl) (by decide) ?_
          refine lv_aload_n hx hb d_FM_total_60 rfl (lv_at hl 0 rfl) ?_
          refine va_get (D := (dC, dI)) (ci := 3) (v := .ref a_picture) (C := "FermionMaps") (T := F_FM) (N := 3) hx hb ht0 i_FM hown hK hP 0 rfl rfl 2 (by decide) (ht0 _ m_133) (fun _ h9 => h9) rfl d_FM_total_61 ?_
          refine lv_aload_n hx hb d_FM_total_64 rfl (lv_at hl 0 rfl) ?_
          refine va_get (D := (dC, dI)) (ci := 3) (v := .ref a_sum) (C := "FermionMaps") (T := F_FM) (N := 3) hx hb ht0 i_FM hown hK hP 0 rfl rfl 0 (by decide) (ht0 _ m_131) (fun _ h9 => h9) rfl d_FM_total_65 ?_
          refine lv_aload_n hx hb d_FM_total_68 rfl (lv_at hl 0 rfl) ?_
          refine va_get (D := (dC, dI)) (ci := 3) (v := .ref a_wiring) (C := "FermionMaps") (T := F_FM) (N := 3) hx hb ht0 i_FM hown hK hP 0 rfl rfl 1 (by decide) (ht0 _ m_132) (fun _ h9 => h9) rfl d_FM_total_69 ?_
          obtain ⟨u_5, h_u_5, hf⟩ := bd hf
          refine wr_v (wr := [(a_p0, .inr (3, [.ref a_sum, .ref a_wiring, .ref a_picture]))]) (wrV_run (As := [.ref a_sum, .ref a_wiring]) (rest := []) ⟨hx, hb, hml, hown, ht0⟩ (c_Pi_draw l dC dI cI cJ a_picture a_picture_flipsOf a_picture_termsAt a_picture_numbers a_picture_spread a_sum a_sum_keys a_sum_numbers a_wiring a_wiring_rows a_wiring_back z_sum_spareKeys z_sum_spareNumbers z_wiring_told z_wiring_spareBack z_wiring_left s.heap.size picture_drawn picture_held picture_terms picture_widest picture_halvings picture_foundSigns picture_flipsOf picture_termsAt picture_numbers picture_spread sum_count sum_keys sum_numbers wiring_size wiring_kind wiring_rows wiring_back F u_5 h_u_5) (cwV 2 ht0 (gV m_261 m_262 m_263 m_4 m_264) rfl rfl rfl (by decide +kernel) ⟨Nat.le_of_ble_eq_true rfl, Nat.le_of_ble_eq_true rfl⟩) hK hNW hP hD [7, 8, 9, 10, 11, 1, 2, 3, 4, 5, 6] rfl rfl (by decide) (ci := 0) (q0 := 7) rfl rfl rfl hl.1 rfl (Nat.le_of_ble_eq_true rfl) d_FM_total_72 ⟨Nat.zero_le _, Nat.zero_le _⟩) hP hD hS hA [7, 8, 9, 10, 11, 1, 2, 3, 4, 5, 6] [0] rfl rfl (by decide) (by decide) (fun w1 H locs hw hP hD hS => ?_)
          obtain rfl := hw
          have hP : va_P (dC, dI) cls [(a_p0, .inr (3, [.ref a_sum, .ref a_wiring, .ref a_picture])), (a_sum, .inr (1, [.ref a_sum_keys, .ref a_sum_numbers, .ref z_sum_spareKeys, .ref z_sum_spareNumbers, .int sum_count])), (a_sum_keys, .inl (cI, 60, .inl sum_keys)), (a_sum_numbers, .inl (cI, 60, .inl sum_numbers)), (a_wiring, .inr (2, [.ref z_wiring_told, .ref a_wiring_rows, .ref a_wiring_back, .ref z_wiring_spareBack, .ref z_wiring_left, .int wiring_size, .int wiring_kind])), (a_wiring_rows, .inl (cI, 8, .inl wiring_rows)), (a_wiring_back, .inl (cI, 8, .inl wiring_back)), (a_picture, .inr (0, [.ref a_picture_flipsOf, .ref a_picture_termsAt, .ref a_picture_numbers, .ref a_picture_spread, .int u_5.1, .int u_5.2.1, .int u_5.2.2.1, .int u_5.2.2.2.1, .int u_5.2.2.2.2.1, .int picture_foundSigns])), (a_picture_flipsOf, .inl (cI, 60, .inl u_5.2.2.2.2.2.1)), (a_picture_termsAt, .inl (cI, 256, .inl u_5.2.2.2.2.2.2.1)), (a_picture_numbers, .inl (cJ, 256, .inr (.inl u_5.2.2.2.2.2.2.2.1))), (a_picture_spread, .inl (cI, 256, .inl u_5.2.2.2.2.2.2.2.2))] H := hP.sub [0, 6, 7, 8, 9, 10, 11, 1, 2, 3, 4, 5] rfl
          have hD : va_D A [(a_p0, .inr (3, [.ref a_sum, .ref a_wiring, .ref a_picture])), (a_sum, .inr (1, [.ref a_sum_keys, .ref a_sum_numbers, .ref z_sum_spareKeys, .ref z_sum_spareNumbers, .int sum_count])), (a_sum_keys, .inl (cI, 60, .inl sum_keys)), (a_sum_numbers, .inl (cI, 60, .inl sum_numbers)), (a_wiring, .inr (2, [.ref z_wiring_told, .ref a_wiring_rows, .ref a_wiring_back, .ref z_wiring_spareBack, .ref z_wiring_left, .int wiring_size, .int wiring_kind])), (a_wiring_rows, .inl (cI, 8, .inl wiring_rows)), (a_wiring_back, .inl (cI, 8, .inl wiring_back)), (a_picture, .inr (0, [.ref a_picture_flipsOf, .ref a_picture_termsAt, .ref a_picture_numbers, .ref a_picture_spread, .int u_5.1, .int u_5.2.1, .int u_5.2.2.1, .int u_5.2.2.2.1, .int u_5.2.2.2.2.1, .int picture_foundSigns])), (a_picture_flipsOf, .inl (cI, 60, .inl u_5.2.2.2.2.2.1)), (a_picture_termsAt, .inl (cI, 256, .inl u_5.2.2.2.2.2.2.1)), (a_picture_numbers, .inl (cJ, 256, .inr (.inl u_5.2.2.2.2.2.2.2.1))), (a_picture_spread, .inl (cI, 256, .inl u_5.2.2.2.2.2.2.2.2))] := hD.sub [0, 6, 7, 8, 9, 10, 11, 1, 2, 3, 4, 5] (by decide) rfl
          refine lv_aload_n hx hb d_FM_total_75 rfl (lv_at hl 0 rfl) ?_
          refine va_get (D := (dC, dI)) (ci := 3) (v := .ref a_picture) (C := "FermionMaps") (T := F_FM) (N := 3) hx hb ht0 i_FM hown hK hP 0 rfl rfl 2 (by decide) (ht0 _ m_133) (fun _ h9 => h9) rfl d_FM_total_76 ?_
          refine va_get (D := (dC, dI)) (ci := 0) (v := .int u_5.2.2.2.1) (C := "FermionMaps$Picture") (T := F_Pi) (N := 10) hx hb ht0 i_Pi hown hK hP 7 rfl rfl 7 (by decide) (ht0 _ m_100) (fun _ h9 => h9) rfl d_FM_total_79 ?_
          have hu := Option.some.inj hf
          subst hu
          exact rw_i hQ rfl rfl hP hD hK hS hx hb hr hlocks d_FM_total_82
        · replace hf := if_f c_4 hf
          by_cases c_6 : p1 = 4
          · replace hf := if_t c_6 hf
            refine lv_tableIn (off := 82) (tgt := 83) hx hb d_FM_total_1 (by rw [c_6]; decide) (by rw [c_6]; decide) (by rw [c_6]; rfl) (by decide) ?_
            refine lv_aload_n hx hb d_FM_total_83 rfl (lv_at hl 0 rfl) ?_
            refine va_get (D := (dC, dI)) (ci := 3) (v := .ref a_sum) (C := "FermionMaps") (T := F_FM) (N := 3) hx hb ht0 i_FM hown hK hP 0 rfl rfl 0 (by decide) (ht0 _ m_131) (fun _ h9 => h9) rfl d_FM_total_84 ?_
            obtain ⟨u_7, h_u_7, hf⟩ := bd hf
            refine rd_i (rdV_run (As := []) (rest := []) ⟨hx, hb, hml, hown, ht0⟩ (c_Su_isEven l dC dI cI cJ a_sum a_sum_keys a_sum_numbers z_sum_spareKeys z_sum_spareNumbers sum_count sum_keys F u_7 h_u_7) (cwV 0 ht0 (gV m_314 m_315 m_316 m_2 m_317) rfl rfl rfl (by decide +kernel) ⟨Nat.le_of_ble_eq_true rfl, Nat.le_of_ble_eq_true rfl⟩) hK hNW hP [1, 2] rfl (ci := 1) (q0 := 1) rfl rfl rfl hl.1 rfl (Nat.le_of_ble_eq_true rfl) d_FM_total_87 ⟨Nat.zero_le _, Nat.zero_le _⟩) ?_
            refine lv_if_eq (tgt := 97) hx hb d_FM_total_90 (by decide) (fun c_8 => ?_) (fun c_8 => ?_)
            · replace hf := if_t c_8 hf
              refine lv_iconst (v := 0) hx hb d_FM_total_97 (by decide) ?_
              have hu := Option.some.inj hf
              subst hu
              exact rw_i hQ rfl rfl hP hD hK hS hx hb hr hlocks d_FM_total_98
            · replace hf := if_f c_8 hf
              refine lv_iconst (v := 1) hx hb d_FM_total_93 (by decide) ?_
              refine lv_goto (tgt := 98) hx hb d_FM_total_94 (by decide) ?_
              have hu := Option.some.inj hf
              subst hu
              exact rw_i hQ rfl rfl hP hD hK hS hx hb hr hlocks d_FM_total_98
          · replace hf := if_f c_6 hf
            refine lv_tableOut (tgt := 99) hx hb d_FM_total_1 (sw_out5 c_1 c_2 c_3 c_4 c_6) (by decide) ?_
            refine lv_iconst (v := (-1)) hx hb d_FM_total_99 (by decide) ?_
            have hu := Option.some.inj hf
            subst hu
            exact rw_i hQ rfl rfl hP hD hK hS hx hb hr hlocks d_FM_total_100
