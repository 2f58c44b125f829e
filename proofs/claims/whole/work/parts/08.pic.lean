theorem d_Pi_markFlips_0 : decode prog_2_method_3_code 0 = .ok (.iconst 0, 1) := by decide +kernel
theorem d_Pi_markFlips_1 : decode prog_2_method_3_code 1 = .ok (.istore_n 3, 1) := by decide +kernel
theorem d_Pi_markFlips_2 : decode prog_2_method_3_code 2 = .ok (.iload_n 3, 1) := by decide +kernel
theorem d_Pi_markFlips_3 : decode prog_2_method_3_code 3 = .ok (.sipush 256, 3) := by decide +kernel
theorem d_Pi_markFlips_6 : decode prog_2_method_3_code 6 = .ok (.if_icmp .ge 16, 3) := by decide +kernel
theorem d_Pi_markFlips_9 : decode prog_2_method_3_code 9 = .ok (.aload_n 0, 1) := by decide +kernel
theorem d_Pi_markFlips_10 : decode prog_2_method_3_code 10 = .ok (.getfield 15, 3) := by decide +kernel
theorem d_Pi_markFlips_13 : decode prog_2_method_3_code 13 = .ok (.iload_n 3, 1) := by decide +kernel
theorem d_Pi_markFlips_14 : decode prog_2_method_3_code 14 = .ok (.iconst 0, 1) := by decide +kernel
theorem d_Pi_markFlips_15 : decode prog_2_method_3_code 15 = .ok (.iastore, 1) := by decide +kernel
theorem d_Pi_markFlips_16 : decode prog_2_method_3_code 16 = .ok (.iinc 3 1, 3) := by decide +kernel
theorem d_Pi_markFlips_19 : decode prog_2_method_3_code 19 = .ok (.goto (-17), 3) := by decide +kernel
theorem d_Pi_markFlips_22 : decode prog_2_method_3_code 22 = .ok (.iconst 0, 1) := by decide +kernel
theorem d_Pi_markFlips_23 : decode prog_2_method_3_code 23 = .ok (.istore_n 3, 1) := by decide +kernel
theorem d_Pi_markFlips_24 : decode prog_2_method_3_code 24 = .ok (.iload_n 3, 1) := by decide +kernel
theorem d_Pi_markFlips_25 : decode prog_2_method_3_code 25 = .ok (.aload_n 1, 1) := by decide +kernel
theorem d_Pi_markFlips_26 : decode prog_2_method_3_code 26 = .ok (.getfield 66, 3) := by decide +kernel
theorem d_Pi_markFlips_29 : decode prog_2_method_3_code 29 = .ok (.if_icmp .ge 46, 3) := by decide +kernel
theorem d_Pi_markFlips_32 : decode prog_2_method_3_code 32 = .ok (.aload_n 0, 1) := by decide +kernel
theorem d_Pi_markFlips_33 : decode prog_2_method_3_code 33 = .ok (.getfield 9, 3) := by decide +kernel
theorem d_Pi_markFlips_36 : decode prog_2_method_3_code 36 = .ok (.iload_n 3, 1) := by decide +kernel
theorem d_Pi_markFlips_37 : decode prog_2_method_3_code 37 = .ok (.aload_n 2, 1) := by decide +kernel
theorem d_Pi_markFlips_38 : decode prog_2_method_3_code 38 = .ok (.aload_n 2, 1) := by decide +kernel
theorem d_Pi_markFlips_39 : decode prog_2_method_3_code 39 = .ok (.getfield 71, 3) := by decide +kernel
theorem d_Pi_markFlips_42 : decode prog_2_method_3_code 42 = .ok (.aload_n 1, 1) := by decide +kernel
theorem d_Pi_markFlips_43 : decode prog_2_method_3_code 43 = .ok (.iload_n 3, 1) := by decide +kernel
theorem d_Pi_markFlips_44 : decode prog_2_method_3_code 44 = .ok (.invokevirtual 74, 3) := by decide +kernel
theorem d_Pi_markFlips_47 : decode prog_2_method_3_code 47 = .ok (.aload_n 1, 1) := by decide +kernel
theorem d_Pi_markFlips_48 : decode prog_2_method_3_code 48 = .ok (.iload_n 3, 1) := by decide +kernel
theorem d_Pi_markFlips_49 : decode prog_2_method_3_code 49 = .ok (.invokevirtual 78, 3) := by decide +kernel
theorem d_Pi_markFlips_52 : decode prog_2_method_3_code 52 = .ok (.ixor, 1) := by decide +kernel
theorem d_Pi_markFlips_53 : decode prog_2_method_3_code 53 = .ok (.invokevirtual 81, 3) := by decide +kernel
theorem d_Pi_markFlips_56 : decode prog_2_method_3_code 56 = .ok (.iastore, 1) := by decide +kernel
theorem d_Pi_markFlips_57 : decode prog_2_method_3_code 57 = .ok (.aload_n 0, 1) := by decide +kernel
theorem d_Pi_markFlips_58 : decode prog_2_method_3_code 58 = .ok (.getfield 15, 3) := by decide +kernel
theorem d_Pi_markFlips_61 : decode prog_2_method_3_code 61 = .ok (.aload_n 0, 1) := by decide +kernel
theorem d_Pi_markFlips_62 : decode prog_2_method_3_code 62 = .ok (.getfield 9, 3) := by decide +kernel
theorem d_Pi_markFlips_65 : decode prog_2_method_3_code 65 = .ok (.iload_n 3, 1) := by decide +kernel
theorem d_Pi_markFlips_66 : decode prog_2_method_3_code 66 = .ok (.iaload, 1) := by decide +kernel
theorem d_Pi_markFlips_67 : decode prog_2_method_3_code 67 = .ok (.iconst 1, 1) := by decide +kernel
theorem d_Pi_markFlips_68 : decode prog_2_method_3_code 68 = .ok (.iastore, 1) := by decide +kernel
theorem d_Pi_markFlips_69 : decode prog_2_method_3_code 69 = .ok (.iinc 3 1, 3) := by decide +kernel
theorem d_Pi_markFlips_72 : decode prog_2_method_3_code 72 = .ok (.goto (-48), 3) := by decide +kernel
theorem d_Pi_markFlips_75 : decode prog_2_method_3_code 75 = .ok (.return_, 1) := by decide +kernel
theorem d_Pi_doubled_0 : decode prog_2_method_8_code 0 = .ok (.iconst 0, 1) := by decide +kernel
theorem d_Pi_doubled_1 : decode prog_2_method_8_code 1 = .ok (.istore_n 3, 1) := by decide +kernel
theorem d_Pi_doubled_2 : decode prog_2_method_8_code 2 = .ok (.iload_n 3, 1) := by decide +kernel
theorem d_Pi_doubled_3 : decode prog_2_method_8_code 3 = .ok (.iload_n 1, 1) := by decide +kernel
theorem d_Pi_doubled_4 : decode prog_2_method_8_code 4 = .ok (.if_icmp .ge 25, 3) := by decide +kernel
theorem d_Pi_doubled_7 : decode prog_2_method_8_code 7 = .ok (.aload_n 0, 1) := by decide +kernel
theorem d_Pi_doubled_8 : decode prog_2_method_8_code 8 = .ok (.getfield 22, 3) := by decide +kernel
theorem d_Pi_doubled_11 : decode prog_2_method_8_code 11 = .ok (.iload_n 1, 1) := by decide +kernel
theorem d_Pi_doubled_12 : decode prog_2_method_8_code 12 = .ok (.iload_n 3, 1) := by decide +kernel
theorem d_Pi_doubled_13 : decode prog_2_method_8_code 13 = .ok (.iadd, 1) := by decide +kernel
theorem d_Pi_doubled_14 : decode prog_2_method_8_code 14 = .ok (.aload_n 0, 1) := by decide +kernel
theorem d_Pi_doubled_15 : decode prog_2_method_8_code 15 = .ok (.getfield 22, 3) := by decide +kernel
theorem d_Pi_doubled_18 : decode prog_2_method_8_code 18 = .ok (.iload_n 3, 1) := by decide +kernel
theorem d_Pi_doubled_19 : decode prog_2_method_8_code 19 = .ok (.iaload, 1) := by decide +kernel
theorem d_Pi_doubled_20 : decode prog_2_method_8_code 20 = .ok (.iload_n 2, 1) := by decide +kernel
theorem d_Pi_doubled_21 : decode prog_2_method_8_code 21 = .ok (.ixor, 1) := by decide +kernel
theorem d_Pi_doubled_22 : decode prog_2_method_8_code 22 = .ok (.iastore, 1) := by decide +kernel
theorem d_Pi_doubled_23 : decode prog_2_method_8_code 23 = .ok (.iinc 3 1, 3) := by decide +kernel
theorem d_Pi_doubled_26 : decode prog_2_method_8_code 26 = .ok (.goto (-24), 3) := by decide +kernel
theorem d_Pi_doubled_29 : decode prog_2_method_8_code 29 = .ok (.iconst 2, 1) := by decide +kernel
theorem d_Pi_doubled_30 : decode prog_2_method_8_code 30 = .ok (.iload_n 1, 1) := by decide +kernel
theorem d_Pi_doubled_31 : decode prog_2_method_8_code 31 = .ok (.imul, 1) := by decide +kernel
theorem d_Pi_doubled_32 : decode prog_2_method_8_code 32 = .ok (.ireturn, 1) := by decide +kernel
theorem d_Pi_bring_0 : decode prog_2_method_7_code 0 = .ok (.iload_n 1, 1) := by decide +kernel
theorem d_Pi_bring_1 : decode prog_2_method_7_code 1 = .ok (.iload_n 2, 1) := by decide +kernel
theorem d_Pi_bring_2 : decode prog_2_method_7_code 2 = .ok (.ior, 1) := by decide +kernel
theorem d_Pi_bring_3 : decode prog_2_method_7_code 3 = .ok (.istore 5, 2) := by decide +kernel
theorem d_Pi_bring_5 : decode prog_2_method_7_code 5 = .ok (.aload 4, 2) := by decide +kernel
theorem d_Pi_bring_7 : decode prog_2_method_7_code 7 = .ok (.iload_n 1, 1) := by decide +kernel
theorem d_Pi_bring_8 : decode prog_2_method_7_code 8 = .ok (.invokestatic 102, 3) := by decide +kernel
theorem d_Pi_bring_11 : decode prog_2_method_7_code 11 = .ok (.iload_n 2, 1) := by decide +kernel
theorem d_Pi_bring_12 : decode prog_2_method_7_code 12 = .ok (.invokestatic 102, 3) := by decide +kernel
theorem d_Pi_bring_15 : decode prog_2_method_7_code 15 = .ok (.ixor, 1) := by decide +kernel
theorem d_Pi_bring_16 : decode prog_2_method_7_code 16 = .ok (.invokevirtual 105, 3) := by decide +kernel
theorem d_Pi_bring_19 : decode prog_2_method_7_code 19 = .ok (.istore 6, 2) := by decide +kernel
theorem d_Pi_bring_21 : decode prog_2_method_7_code 21 = .ok (.aload_n 0, 1) := by decide +kernel
theorem d_Pi_bring_22 : decode prog_2_method_7_code 22 = .ok (.getfield 22, 3) := by decide +kernel
theorem d_Pi_bring_25 : decode prog_2_method_7_code 25 = .ok (.iconst 0, 1) := by decide +kernel
theorem d_Pi_bring_26 : decode prog_2_method_7_code 26 = .ok (.iload_n 1, 1) := by decide +kernel
theorem d_Pi_bring_27 : decode prog_2_method_7_code 27 = .ok (.iload_n 2, 1) := by decide +kernel
theorem d_Pi_bring_28 : decode prog_2_method_7_code 28 = .ok (.invokestatic 108, 3) := by decide +kernel
theorem d_Pi_bring_31 : decode prog_2_method_7_code 31 = .ok (.ifCond .eq 12, 3) := by decide +kernel
theorem d_Pi_bring_34 : decode prog_2_method_7_code 34 = .ok (.iload 6, 2) := by decide +kernel
theorem d_Pi_bring_36 : decode prog_2_method_7_code 36 = .ok (.sipush 256, 3) := by decide +kernel
theorem d_Pi_bring_39 : decode prog_2_method_7_code 39 = .ok (.iadd, 1) := by decide +kernel
theorem d_Pi_bring_40 : decode prog_2_method_7_code 40 = .ok (.goto 5, 3) := by decide +kernel
theorem d_Pi_bring_43 : decode prog_2_method_7_code 43 = .ok (.iload 6, 2) := by decide +kernel
theorem d_Pi_bring_45 : decode prog_2_method_7_code 45 = .ok (.iastore, 1) := by decide +kernel
theorem d_Pi_bring_46 : decode prog_2_method_7_code 46 = .ok (.iconst 1, 1) := by decide +kernel
theorem d_Pi_bring_47 : decode prog_2_method_7_code 47 = .ok (.istore 7, 2) := by decide +kernel
theorem d_Pi_bring_49 : decode prog_2_method_7_code 49 = .ok (.iconst 0, 1) := by decide +kernel
theorem d_Pi_bring_50 : decode prog_2_method_7_code 50 = .ok (.istore 8, 2) := by decide +kernel
theorem d_Pi_bring_52 : decode prog_2_method_7_code 52 = .ok (.iload 8, 2) := by decide +kernel
theorem d_Pi_bring_54 : decode prog_2_method_7_code 54 = .ok (.aload 4, 2) := by decide +kernel
theorem d_Pi_bring_56 : decode prog_2_method_7_code 56 = .ok (.getfield 49, 3) := by decide +kernel
theorem d_Pi_bring_59 : decode prog_2_method_7_code 59 = .ok (.if_icmp .ge 57, 3) := by decide +kernel
theorem d_Pi_bring_62 : decode prog_2_method_7_code 62 = .ok (.iload 5, 2) := by decide +kernel
theorem d_Pi_bring_64 : decode prog_2_method_7_code 64 = .ok (.iload 8, 2) := by decide +kernel
theorem d_Pi_bring_66 : decode prog_2_method_7_code 66 = .ok (.invokestatic 112, 3) := by decide +kernel
theorem d_Pi_bring_69 : decode prog_2_method_7_code 69 = .ok (.ifCond .eq 41, 3) := by decide +kernel
theorem d_Pi_bring_72 : decode prog_2_method_7_code 72 = .ok (.aload 4, 2) := by decide +kernel
theorem d_Pi_bring_74 : decode prog_2_method_7_code 74 = .ok (.getfield 115, 3) := by decide +kernel
theorem d_Pi_bring_77 : decode prog_2_method_7_code 77 = .ok (.iload 8, 2) := by decide +kernel
theorem d_Pi_bring_79 : decode prog_2_method_7_code 79 = .ok (.iaload, 1) := by decide +kernel
theorem d_Pi_bring_80 : decode prog_2_method_7_code 80 = .ok (.istore 9, 2) := by decide +kernel
theorem d_Pi_bring_82 : decode prog_2_method_7_code 82 = .ok (.aload_n 0, 1) := by decide +kernel
theorem d_Pi_bring_83 : decode prog_2_method_7_code 83 = .ok (.iload 7, 2) := by decide +kernel
theorem d_Pi_bring_85 : decode prog_2_method_7_code 85 = .ok (.iload_n 2, 1) := by decide +kernel
theorem d_Pi_bring_86 : decode prog_2_method_7_code 86 = .ok (.iload 8, 2) := by decide +kernel
theorem d_Pi_bring_88 : decode prog_2_method_7_code 88 = .ok (.invokestatic 112, 3) := by decide +kernel
theorem d_Pi_bring_91 : decode prog_2_method_7_code 91 = .ok (.ifCond .eq 12, 3) := by decide +kernel
theorem d_Pi_bring_94 : decode prog_2_method_7_code 94 = .ok (.iload 9, 2) := by decide +kernel
theorem d_Pi_bring_96 : decode prog_2_method_7_code 96 = .ok (.sipush 256, 3) := by decide +kernel
theorem d_Pi_bring_99 : decode prog_2_method_7_code 99 = .ok (.iadd, 1) := by decide +kernel
theorem d_Pi_bring_100 : decode prog_2_method_7_code 100 = .ok (.goto 5, 3) := by decide +kernel
theorem d_Pi_bring_103 : decode prog_2_method_7_code 103 = .ok (.iload 9, 2) := by decide +kernel
theorem d_Pi_bring_105 : decode prog_2_method_7_code 105 = .ok (.invokevirtual 118, 3) := by decide +kernel
theorem d_Pi_bring_108 : decode prog_2_method_7_code 108 = .ok (.istore 7, 2) := by decide +kernel
theorem d_Pi_bring_110 : decode prog_2_method_7_code 110 = .ok (.iinc 8 1, 3) := by decide +kernel
theorem d_Pi_bring_113 : decode prog_2_method_7_code 113 = .ok (.goto (-61), 3) := by decide +kernel
theorem d_Pi_bring_116 : decode prog_2_method_7_code 116 = .ok (.iload_n 3, 1) := by decide +kernel
theorem d_Pi_bring_117 : decode prog_2_method_7_code 117 = .ok (.i2l, 1) := by decide +kernel
theorem d_Pi_bring_118 : decode prog_2_method_7_code 118 = .ok (.aload 4, 2) := by decide +kernel
theorem d_Pi_bring_120 : decode prog_2_method_7_code 120 = .ok (.getfield 49, 3) := by decide +kernel
theorem d_Pi_bring_123 : decode prog_2_method_7_code 123 = .ok (.iload 5, 2) := by decide +kernel
theorem d_Pi_bring_125 : decode prog_2_method_7_code 125 = .ok (.invokestatic 91, 3) := by decide +kernel
theorem d_Pi_bring_128 : decode prog_2_method_7_code 128 = .ok (.isub, 1) := by decide +kernel
theorem d_Pi_bring_129 : decode prog_2_method_7_code 129 = .ok (.lshl, 1) := by decide +kernel
theorem d_Pi_bring_130 : decode prog_2_method_7_code 130 = .ok (.lstore 8, 2) := by decide +kernel
theorem d_Pi_bring_132 : decode prog_2_method_7_code 132 = .ok (.iconst 0, 1) := by decide +kernel
theorem d_Pi_bring_133 : decode prog_2_method_7_code 133 = .ok (.istore 10, 2) := by decide +kernel
theorem d_Pi_bring_135 : decode prog_2_method_7_code 135 = .ok (.iload 10, 2) := by decide +kernel
theorem d_Pi_bring_137 : decode prog_2_method_7_code 137 = .ok (.iload 7, 2) := by decide +kernel
theorem d_Pi_bring_139 : decode prog_2_method_7_code 139 = .ok (.if_icmp .ge 49, 3) := by decide +kernel
theorem d_Pi_bring_142 : decode prog_2_method_7_code 142 = .ok (.aload_n 0, 1) := by decide +kernel
theorem d_Pi_bring_143 : decode prog_2_method_7_code 143 = .ok (.getfield 18, 3) := by decide +kernel
theorem d_Pi_bring_146 : decode prog_2_method_7_code 146 = .ok (.aload_n 0, 1) := by decide +kernel
theorem d_Pi_bring_147 : decode prog_2_method_7_code 147 = .ok (.getfield 22, 3) := by decide +kernel
theorem d_Pi_bring_150 : decode prog_2_method_7_code 150 = .ok (.iload 10, 2) := by decide +kernel
theorem d_Pi_bring_152 : decode prog_2_method_7_code 152 = .ok (.iaload, 1) := by decide +kernel
theorem d_Pi_bring_153 : decode prog_2_method_7_code 153 = .ok (.sipush 255, 3) := by decide +kernel
theorem d_Pi_bring_156 : decode prog_2_method_7_code 156 = .ok (.iand, 1) := by decide +kernel
theorem d_Pi_bring_157 : decode prog_2_method_7_code 157 = .ok (.dup2, 1) := by decide +kernel
theorem d_Pi_bring_158 : decode prog_2_method_7_code 158 = .ok (.laload, 1) := by decide +kernel
theorem d_Pi_bring_159 : decode prog_2_method_7_code 159 = .ok (.aload_n 0, 1) := by decide +kernel
theorem d_Pi_bring_160 : decode prog_2_method_7_code 160 = .ok (.getfield 22, 3) := by decide +kernel
theorem d_Pi_bring_163 : decode prog_2_method_7_code 163 = .ok (.iload 10, 2) := by decide +kernel
theorem d_Pi_bring_165 : decode prog_2_method_7_code 165 = .ok (.iaload, 1) := by decide +kernel
theorem d_Pi_bring_166 : decode prog_2_method_7_code 166 = .ok (.sipush 256, 3) := by decide +kernel
theorem d_Pi_bring_169 : decode prog_2_method_7_code 169 = .ok (.if_icmp .lt 9, 3) := by decide +kernel
theorem d_Pi_bring_172 : decode prog_2_method_7_code 172 = .ok (.lload 8, 2) := by decide +kernel
theorem d_Pi_bring_174 : decode prog_2_method_7_code 174 = .ok (.lneg, 1) := by decide +kernel
theorem d_Pi_bring_175 : decode prog_2_method_7_code 175 = .ok (.goto 5, 3) := by decide +kernel
theorem d_Pi_bring_178 : decode prog_2_method_7_code 178 = .ok (.lload 8, 2) := by decide +kernel
theorem d_Pi_bring_180 : decode prog_2_method_7_code 180 = .ok (.ladd, 1) := by decide +kernel
theorem d_Pi_bring_181 : decode prog_2_method_7_code 181 = .ok (.lastore, 1) := by decide +kernel
theorem d_Pi_bring_182 : decode prog_2_method_7_code 182 = .ok (.iinc 10 1, 3) := by decide +kernel
theorem d_Pi_bring_185 : decode prog_2_method_7_code 185 = .ok (.goto (-50), 3) := by decide +kernel
theorem d_Pi_bring_188 : decode prog_2_method_7_code 188 = .ok (.return_, 1) := by decide +kernel
theorem d_Pi_hold_0 : decode prog_2_method_4_code 0 = .ok (.iconst 1, 1) := by decide +kernel
theorem d_Pi_hold_1 : decode prog_2_method_4_code 1 = .ok (.aload_n 3, 1) := by decide +kernel
theorem d_Pi_hold_2 : decode prog_2_method_4_code 2 = .ok (.getfield 49, 3) := by decide +kernel
theorem d_Pi_hold_5 : decode prog_2_method_4_code 5 = .ok (.ishl, 1) := by decide +kernel
theorem d_Pi_hold_6 : decode prog_2_method_4_code 6 = .ok (.istore 4, 2) := by decide +kernel
theorem d_Pi_hold_8 : decode prog_2_method_4_code 8 = .ok (.iconst 0, 1) := by decide +kernel
theorem d_Pi_hold_9 : decode prog_2_method_4_code 9 = .ok (.istore 5, 2) := by decide +kernel
theorem d_Pi_hold_11 : decode prog_2_method_4_code 11 = .ok (.iload 5, 2) := by decide +kernel
theorem d_Pi_hold_13 : decode prog_2_method_4_code 13 = .ok (.iload 4, 2) := by decide +kernel
theorem d_Pi_hold_15 : decode prog_2_method_4_code 15 = .ok (.if_icmp .ge 17, 3) := by decide +kernel
theorem d_Pi_hold_18 : decode prog_2_method_4_code 18 = .ok (.aload_n 0, 1) := by decide +kernel
theorem d_Pi_hold_19 : decode prog_2_method_4_code 19 = .ok (.getfield 18, 3) := by decide +kernel
theorem d_Pi_hold_22 : decode prog_2_method_4_code 22 = .ok (.iload 5, 2) := by decide +kernel
theorem d_Pi_hold_24 : decode prog_2_method_4_code 24 = .ok (.lconst 0, 1) := by decide +kernel
theorem d_Pi_hold_25 : decode prog_2_method_4_code 25 = .ok (.lastore, 1) := by decide +kernel
theorem d_Pi_hold_26 : decode prog_2_method_4_code 26 = .ok (.iinc 5 1, 3) := by decide +kernel
theorem d_Pi_hold_29 : decode prog_2_method_4_code 29 = .ok (.goto (-18), 3) := by decide +kernel
theorem d_Pi_hold_32 : decode prog_2_method_4_code 32 = .ok (.iconst 0, 1) := by decide +kernel
theorem d_Pi_hold_33 : decode prog_2_method_4_code 33 = .ok (.istore 5, 2) := by decide +kernel
theorem d_Pi_hold_35 : decode prog_2_method_4_code 35 = .ok (.iload 5, 2) := by decide +kernel
theorem d_Pi_hold_37 : decode prog_2_method_4_code 37 = .ok (.aload_n 2, 1) := by decide +kernel
theorem d_Pi_hold_38 : decode prog_2_method_4_code 38 = .ok (.getfield 66, 3) := by decide +kernel
theorem d_Pi_hold_41 : decode prog_2_method_4_code 41 = .ok (.if_icmp .ge 44, 3) := by decide +kernel
theorem d_Pi_hold_44 : decode prog_2_method_4_code 44 = .ok (.aload_n 0, 1) := by decide +kernel
theorem d_Pi_hold_45 : decode prog_2_method_4_code 45 = .ok (.getfield 9, 3) := by decide +kernel
theorem d_Pi_hold_48 : decode prog_2_method_4_code 48 = .ok (.iload 5, 2) := by decide +kernel
theorem d_Pi_hold_50 : decode prog_2_method_4_code 50 = .ok (.iaload, 1) := by decide +kernel
theorem d_Pi_hold_51 : decode prog_2_method_4_code 51 = .ok (.iload_n 1, 1) := by decide +kernel
theorem d_Pi_hold_52 : decode prog_2_method_4_code 52 = .ok (.if_icmp .ne 27, 3) := by decide +kernel
theorem d_Pi_hold_55 : decode prog_2_method_4_code 55 = .ok (.aload_n 0, 1) := by decide +kernel
theorem d_Pi_hold_56 : decode prog_2_method_4_code 56 = .ok (.aload_n 2, 1) := by decide +kernel
theorem d_Pi_hold_57 : decode prog_2_method_4_code 57 = .ok (.iload 5, 2) := by decide +kernel
theorem d_Pi_hold_59 : decode prog_2_method_4_code 59 = .ok (.invokevirtual 74, 3) := by decide +kernel
theorem d_Pi_hold_62 : decode prog_2_method_4_code 62 = .ok (.aload_n 2, 1) := by decide +kernel
theorem d_Pi_hold_63 : decode prog_2_method_4_code 63 = .ok (.iload 5, 2) := by decide +kernel
theorem d_Pi_hold_65 : decode prog_2_method_4_code 65 = .ok (.invokevirtual 78, 3) := by decide +kernel
theorem d_Pi_hold_68 : decode prog_2_method_4_code 68 = .ok (.aload_n 2, 1) := by decide +kernel
theorem d_Pi_hold_69 : decode prog_2_method_4_code 69 = .ok (.getfield 85, 3) := by decide +kernel
theorem d_Pi_hold_72 : decode prog_2_method_4_code 72 = .ok (.iload 5, 2) := by decide +kernel
theorem d_Pi_hold_74 : decode prog_2_method_4_code 74 = .ok (.iaload, 1) := by decide +kernel
theorem d_Pi_hold_75 : decode prog_2_method_4_code 75 = .ok (.aload_n 3, 1) := by decide +kernel
theorem d_Pi_hold_76 : decode prog_2_method_4_code 76 = .ok (.invokevirtual 87, 3) := by decide +kernel
theorem d_Pi_hold_79 : decode prog_2_method_4_code 79 = .ok (.iinc 5 1, 3) := by decide +kernel
theorem d_Pi_hold_82 : decode prog_2_method_4_code 82 = .ok (.goto (-47), 3) := by decide +kernel
theorem d_Pi_hold_85 : decode prog_2_method_4_code 85 = .ok (.aload_n 0, 1) := by decide +kernel
theorem d_Pi_hold_86 : decode prog_2_method_4_code 86 = .ok (.iload_n 1, 1) := by decide +kernel
theorem d_Pi_hold_87 : decode prog_2_method_4_code 87 = .ok (.putfield 29, 3) := by decide +kernel
theorem d_Pi_hold_90 : decode prog_2_method_4_code 90 = .ok (.return_, 1) := by decide +kernel
theorem d_Pi_tally_0 : decode prog_2_method_5_code 0 = .ok (.lconst 0, 1) := by decide +kernel
theorem d_Pi_tally_1 : decode prog_2_method_5_code 1 = .ok (.lstore_n 2, 1) := by decide +kernel
theorem d_Pi_tally_2 : decode prog_2_method_5_code 2 = .ok (.iconst 0, 1) := by decide +kernel
theorem d_Pi_tally_3 : decode prog_2_method_5_code 3 = .ok (.istore 4, 2) := by decide +kernel
theorem d_Pi_tally_5 : decode prog_2_method_5_code 5 = .ok (.iconst 0, 1) := by decide +kernel
theorem d_Pi_tally_6 : decode prog_2_method_5_code 6 = .ok (.istore 5, 2) := by decide +kernel
theorem d_Pi_tally_8 : decode prog_2_method_5_code 8 = .ok (.iload 5, 2) := by decide +kernel
theorem d_Pi_tally_10 : decode prog_2_method_5_code 10 = .ok (.iload_n 1, 1) := by decide +kernel
theorem d_Pi_tally_11 : decode prog_2_method_5_code 11 = .ok (.if_icmp .ge 55, 3) := by decide +kernel
theorem d_Pi_tally_14 : decode prog_2_method_5_code 14 = .ok (.aload_n 0, 1) := by decide +kernel
theorem d_Pi_tally_15 : decode prog_2_method_5_code 15 = .ok (.getfield 18, 3) := by decide +kernel
theorem d_Pi_tally_18 : decode prog_2_method_5_code 18 = .ok (.iload 5, 2) := by decide +kernel
theorem d_Pi_tally_20 : decode prog_2_method_5_code 20 = .ok (.laload, 1) := by decide +kernel
theorem d_Pi_tally_21 : decode prog_2_method_5_code 21 = .ok (.lconst 0, 1) := by decide +kernel
theorem d_Pi_tally_22 : decode prog_2_method_5_code 22 = .ok (.lcmp, 1) := by decide +kernel
theorem d_Pi_tally_23 : decode prog_2_method_5_code 23 = .ok (.ifCond .eq 37, 3) := by decide +kernel
theorem d_Pi_tally_26 : decode prog_2_method_5_code 26 = .ok (.lload_n 2, 1) := by decide +kernel
theorem d_Pi_tally_27 : decode prog_2_method_5_code 27 = .ok (.aload_n 0, 1) := by decide +kernel
theorem d_Pi_tally_28 : decode prog_2_method_5_code 28 = .ok (.getfield 18, 3) := by decide +kernel
theorem d_Pi_tally_31 : decode prog_2_method_5_code 31 = .ok (.iload 5, 2) := by decide +kernel
theorem d_Pi_tally_33 : decode prog_2_method_5_code 33 = .ok (.laload, 1) := by decide +kernel
theorem d_Pi_tally_34 : decode prog_2_method_5_code 34 = .ok (.lor, 1) := by decide +kernel
theorem d_Pi_tally_35 : decode prog_2_method_5_code 35 = .ok (.lstore_n 2, 1) := by decide +kernel
theorem d_Pi_tally_36 : decode prog_2_method_5_code 36 = .ok (.iinc 4 1, 3) := by decide +kernel
theorem d_Pi_tally_39 : decode prog_2_method_5_code 39 = .ok (.aload_n 0, 1) := by decide +kernel
theorem d_Pi_tally_40 : decode prog_2_method_5_code 40 = .ok (.aload_n 0, 1) := by decide +kernel
theorem d_Pi_tally_41 : decode prog_2_method_5_code 41 = .ok (.getfield 36, 3) := by decide +kernel
theorem d_Pi_tally_44 : decode prog_2_method_5_code 44 = .ok (.aload_n 0, 1) := by decide +kernel
theorem d_Pi_tally_45 : decode prog_2_method_5_code 45 = .ok (.getfield 29, 3) := by decide +kernel
theorem d_Pi_tally_48 : decode prog_2_method_5_code 48 = .ok (.iload 5, 2) := by decide +kernel
theorem d_Pi_tally_50 : decode prog_2_method_5_code 50 = .ok (.ior, 1) := by decide +kernel
theorem d_Pi_tally_51 : decode prog_2_method_5_code 51 = .ok (.invokestatic 91, 3) := by decide +kernel
theorem d_Pi_tally_54 : decode prog_2_method_5_code 54 = .ok (.invokestatic 96, 3) := by decide +kernel
theorem d_Pi_tally_57 : decode prog_2_method_5_code 57 = .ok (.putfield 36, 3) := by decide +kernel
theorem d_Pi_tally_60 : decode prog_2_method_5_code 60 = .ok (.iinc 5 1, 3) := by decide +kernel
theorem d_Pi_tally_63 : decode prog_2_method_5_code 63 = .ok (.goto (-55), 3) := by decide +kernel
theorem d_Pi_tally_66 : decode prog_2_method_5_code 66 = .ok (.aload_n 0, 1) := by decide +kernel
theorem d_Pi_tally_67 : decode prog_2_method_5_code 67 = .ok (.getfield 15, 3) := by decide +kernel
theorem d_Pi_tally_70 : decode prog_2_method_5_code 70 = .ok (.aload_n 0, 1) := by decide +kernel
theorem d_Pi_tally_71 : decode prog_2_method_5_code 71 = .ok (.getfield 29, 3) := by decide +kernel
theorem d_Pi_tally_74 : decode prog_2_method_5_code 74 = .ok (.iload 4, 2) := by decide +kernel
theorem d_Pi_tally_76 : decode prog_2_method_5_code 76 = .ok (.iastore, 1) := by decide +kernel
theorem d_Pi_tally_77 : decode prog_2_method_5_code 77 = .ok (.aload_n 0, 1) := by decide +kernel
theorem d_Pi_tally_78 : decode prog_2_method_5_code 78 = .ok (.dup, 1) := by decide +kernel
theorem d_Pi_tally_79 : decode prog_2_method_5_code 79 = .ok (.getfield 33, 3) := by decide +kernel
theorem d_Pi_tally_82 : decode prog_2_method_5_code 82 = .ok (.iload 4, 2) := by decide +kernel
theorem d_Pi_tally_84 : decode prog_2_method_5_code 84 = .ok (.iadd, 1) := by decide +kernel
theorem d_Pi_tally_85 : decode prog_2_method_5_code 85 = .ok (.putfield 33, 3) := by decide +kernel
theorem d_Pi_tally_88 : decode prog_2_method_5_code 88 = .ok (.lload_n 2, 1) := by decide +kernel
theorem d_Pi_tally_89 : decode prog_2_method_5_code 89 = .ok (.lreturn, 1) := by decide +kernel
theorem d_Pi_leastHalvings_0 : decode prog_2_method_6_code 0 = .ok (.lconst 1, 1) := by decide +kernel
theorem d_Pi_leastHalvings_1 : decode prog_2_method_6_code 1 = .ok (.iload_n 2, 1) := by decide +kernel
theorem d_Pi_leastHalvings_2 : decode prog_2_method_6_code 2 = .ok (.lshl, 1) := by decide +kernel
theorem d_Pi_leastHalvings_3 : decode prog_2_method_6_code 3 = .ok (.lconst 1, 1) := by decide +kernel
theorem d_Pi_leastHalvings_4 : decode prog_2_method_6_code 4 = .ok (.lsub, 1) := by decide +kernel
theorem d_Pi_leastHalvings_5 : decode prog_2_method_6_code 5 = .ok (.lstore_n 3, 1) := by decide +kernel
theorem d_Pi_leastHalvings_6 : decode prog_2_method_6_code 6 = .ok (.iconst 0, 1) := by decide +kernel
theorem d_Pi_leastHalvings_7 : decode prog_2_method_6_code 7 = .ok (.istore 5, 2) := by decide +kernel
theorem d_Pi_leastHalvings_9 : decode prog_2_method_6_code 9 = .ok (.iload 5, 2) := by decide +kernel
theorem d_Pi_leastHalvings_11 : decode prog_2_method_6_code 11 = .ok (.iload_n 2, 1) := by decide +kernel
theorem d_Pi_leastHalvings_12 : decode prog_2_method_6_code 12 = .ok (.if_icmp .ge 20, 3) := by decide +kernel
theorem d_Pi_leastHalvings_15 : decode prog_2_method_6_code 15 = .ok (.lload_n 0, 1) := by decide +kernel
theorem d_Pi_leastHalvings_16 : decode prog_2_method_6_code 16 = .ok (.iload 5, 2) := by decide +kernel
theorem d_Pi_leastHalvings_18 : decode prog_2_method_6_code 18 = .ok (.lshl, 1) := by decide +kernel
theorem d_Pi_leastHalvings_19 : decode prog_2_method_6_code 19 = .ok (.lload_n 3, 1) := by decide +kernel
theorem d_Pi_leastHalvings_20 : decode prog_2_method_6_code 20 = .ok (.land, 1) := by decide +kernel
theorem d_Pi_leastHalvings_21 : decode prog_2_method_6_code 21 = .ok (.lconst 0, 1) := by decide +kernel
theorem d_Pi_leastHalvings_22 : decode prog_2_method_6_code 22 = .ok (.lcmp, 1) := by decide +kernel
theorem d_Pi_leastHalvings_23 : decode prog_2_method_6_code 23 = .ok (.ifCond .eq 9, 3) := by decide +kernel
theorem d_Pi_leastHalvings_26 : decode prog_2_method_6_code 26 = .ok (.iinc 5 1, 3) := by decide +kernel
theorem d_Pi_leastHalvings_29 : decode prog_2_method_6_code 29 = .ok (.goto (-20), 3) := by decide +kernel
theorem d_Pi_leastHalvings_32 : decode prog_2_method_6_code 32 = .ok (.iload 5, 2) := by decide +kernel
theorem d_Pi_leastHalvings_34 : decode prog_2_method_6_code 34 = .ok (.ireturn, 1) := by decide +kernel
theorem d_Pi_draw_0 : decode prog_2_method_2_code 0 = .ok (.aload_n 0, 1) := by decide +kernel
theorem d_Pi_draw_1 : decode prog_2_method_2_code 1 = .ok (.getfield 25, 3) := by decide +kernel
theorem d_Pi_draw_4 : decode prog_2_method_2_code 4 = .ok (.ifCond .eq 4, 3) := by decide +kernel
theorem d_Pi_draw_7 : decode prog_2_method_2_code 7 = .ok (.return_, 1) := by decide +kernel
theorem d_Pi_draw_8 : decode prog_2_method_2_code 8 = .ok (.aload_n 0, 1) := by decide +kernel
theorem d_Pi_draw_9 : decode prog_2_method_2_code 9 = .ok (.iconst 0, 1) := by decide +kernel
theorem d_Pi_draw_10 : decode prog_2_method_2_code 10 = .ok (.putfield 33, 3) := by decide +kernel
theorem d_Pi_draw_13 : decode prog_2_method_2_code 13 = .ok (.aload_n 0, 1) := by decide +kernel
theorem d_Pi_draw_14 : decode prog_2_method_2_code 14 = .ok (.iconst 0, 1) := by decide +kernel
theorem d_Pi_draw_15 : decode prog_2_method_2_code 15 = .ok (.putfield 36, 3) := by decide +kernel
theorem d_Pi_draw_18 : decode prog_2_method_2_code 18 = .ok (.aload_n 0, 1) := by decide +kernel
theorem d_Pi_draw_19 : decode prog_2_method_2_code 19 = .ok (.aload_n 1, 1) := by decide +kernel
theorem d_Pi_draw_20 : decode prog_2_method_2_code 20 = .ok (.aload_n 2, 1) := by decide +kernel
theorem d_Pi_draw_21 : decode prog_2_method_2_code 21 = .ok (.invokevirtual 45, 3) := by decide +kernel
theorem d_Pi_draw_24 : decode prog_2_method_2_code 24 = .ok (.iconst 1, 1) := by decide +kernel
theorem d_Pi_draw_25 : decode prog_2_method_2_code 25 = .ok (.aload_n 2, 1) := by decide +kernel
theorem d_Pi_draw_26 : decode prog_2_method_2_code 26 = .ok (.getfield 49, 3) := by decide +kernel
theorem d_Pi_draw_29 : decode prog_2_method_2_code 29 = .ok (.ishl, 1) := by decide +kernel
theorem d_Pi_draw_30 : decode prog_2_method_2_code 30 = .ok (.istore_n 3, 1) := by decide +kernel
theorem d_Pi_draw_31 : decode prog_2_method_2_code 31 = .ok (.lconst 0, 1) := by decide +kernel
theorem d_Pi_draw_32 : decode prog_2_method_2_code 32 = .ok (.lstore 4, 2) := by decide +kernel
theorem d_Pi_draw_34 : decode prog_2_method_2_code 34 = .ok (.iconst 0, 1) := by decide +kernel
theorem d_Pi_draw_35 : decode prog_2_method_2_code 35 = .ok (.istore 6, 2) := by decide +kernel
theorem d_Pi_draw_37 : decode prog_2_method_2_code 37 = .ok (.iload 6, 2) := by decide +kernel
theorem d_Pi_draw_39 : decode prog_2_method_2_code 39 = .ok (.iload_n 3, 1) := by decide +kernel
theorem d_Pi_draw_40 : decode prog_2_method_2_code 40 = .ok (.if_icmp .ge 37, 3) := by decide +kernel
theorem d_Pi_draw_43 : decode prog_2_method_2_code 43 = .ok (.aload_n 0, 1) := by decide +kernel
theorem d_Pi_draw_44 : decode prog_2_method_2_code 44 = .ok (.getfield 15, 3) := by decide +kernel
theorem d_Pi_draw_47 : decode prog_2_method_2_code 47 = .ok (.iload 6, 2) := by decide +kernel
theorem d_Pi_draw_49 : decode prog_2_method_2_code 49 = .ok (.iaload, 1) := by decide +kernel
theorem d_Pi_draw_50 : decode prog_2_method_2_code 50 = .ok (.ifCond .eq 21, 3) := by decide +kernel
theorem d_Pi_draw_53 : decode prog_2_method_2_code 53 = .ok (.aload_n 0, 1) := by decide +kernel
theorem d_Pi_draw_54 : decode prog_2_method_2_code 54 = .ok (.iload 6, 2) := by decide +kernel
theorem d_Pi_draw_56 : decode prog_2_method_2_code 56 = .ok (.aload_n 1, 1) := by decide +kernel
theorem d_Pi_draw_57 : decode prog_2_method_2_code 57 = .ok (.aload_n 2, 1) := by decide +kernel
theorem d_Pi_draw_58 : decode prog_2_method_2_code 58 = .ok (.invokevirtual 54, 3) := by decide +kernel
theorem d_Pi_draw_61 : decode prog_2_method_2_code 61 = .ok (.lload 4, 2) := by decide +kernel
theorem d_Pi_draw_63 : decode prog_2_method_2_code 63 = .ok (.aload_n 0, 1) := by decide +kernel
theorem d_Pi_draw_64 : decode prog_2_method_2_code 64 = .ok (.iload_n 3, 1) := by decide +kernel
theorem d_Pi_draw_65 : decode prog_2_method_2_code 65 = .ok (.invokevirtual 58, 3) := by decide +kernel
theorem d_Pi_draw_68 : decode prog_2_method_2_code 68 = .ok (.lor, 1) := by decide +kernel
theorem d_Pi_draw_69 : decode prog_2_method_2_code 69 = .ok (.lstore 4, 2) := by decide +kernel
theorem d_Pi_draw_71 : decode prog_2_method_2_code 71 = .ok (.iinc 6 1, 3) := by decide +kernel
theorem d_Pi_draw_74 : decode prog_2_method_2_code 74 = .ok (.goto (-37), 3) := by decide +kernel
theorem d_Pi_draw_77 : decode prog_2_method_2_code 77 = .ok (.aload_n 0, 1) := by decide +kernel
theorem d_Pi_draw_78 : decode prog_2_method_2_code 78 = .ok (.lload 4, 2) := by decide +kernel
theorem d_Pi_draw_80 : decode prog_2_method_2_code 80 = .ok (.aload_n 2, 1) := by decide +kernel
theorem d_Pi_draw_81 : decode prog_2_method_2_code 81 = .ok (.getfield 49, 3) := by decide +kernel
theorem d_Pi_draw_84 : decode prog_2_method_2_code 84 = .ok (.invokestatic 62, 3) := by decide +kernel
theorem d_Pi_draw_87 : decode prog_2_method_2_code 87 = .ok (.putfield 39, 3) := by decide +kernel
theorem d_Pi_draw_90 : decode prog_2_method_2_code 90 = .ok (.aload_n 0, 1) := by decide +kernel
theorem d_Pi_draw_91 : decode prog_2_method_2_code 91 = .ok (.iconst 1, 1) := by decide +kernel
theorem d_Pi_draw_92 : decode prog_2_method_2_code 92 = .ok (.putfield 25, 3) := by decide +kernel
theorem d_Pi_draw_95 : decode prog_2_method_2_code 95 = .ok (.return_, 1) := by decide +kernel
theorem d_Pi_find_0 : decode prog_2_method_9_code 0 = .ok (.iconst 1, 1) := by decide +kernel
theorem d_Pi_find_1 : decode prog_2_method_9_code 1 = .ok (.aload_n 3, 1) := by decide +kernel
theorem d_Pi_find_2 : decode prog_2_method_9_code 2 = .ok (.getfield 49, 3) := by decide +kernel
theorem d_Pi_find_5 : decode prog_2_method_9_code 5 = .ok (.ishl, 1) := by decide +kernel
theorem d_Pi_find_6 : decode prog_2_method_9_code 6 = .ok (.istore 4, 2) := by decide +kernel
theorem d_Pi_find_8 : decode prog_2_method_9_code 8 = .ok (.iload_n 1, 1) := by decide +kernel
theorem d_Pi_find_9 : decode prog_2_method_9_code 9 = .ok (.istore 5, 2) := by decide +kernel
theorem d_Pi_find_11 : decode prog_2_method_9_code 11 = .ok (.iconst 0, 1) := by decide +kernel
theorem d_Pi_find_12 : decode prog_2_method_9_code 12 = .ok (.istore 6, 2) := by decide +kernel
theorem d_Pi_find_14 : decode prog_2_method_9_code 14 = .ok (.iload 6, 2) := by decide +kernel
theorem d_Pi_find_16 : decode prog_2_method_9_code 16 = .ok (.iload 4, 2) := by decide +kernel
theorem d_Pi_find_18 : decode prog_2_method_9_code 18 = .ok (.iconst 1, 1) := by decide +kernel
theorem d_Pi_find_19 : decode prog_2_method_9_code 19 = .ok (.isub, 1) := by decide +kernel
theorem d_Pi_find_20 : decode prog_2_method_9_code 20 = .ok (.if_icmp .ge 33, 3) := by decide +kernel
theorem d_Pi_find_23 : decode prog_2_method_9_code 23 = .ok (.iload 5, 2) := by decide +kernel
theorem d_Pi_find_25 : decode prog_2_method_9_code 25 = .ok (.aload_n 0, 1) := by decide +kernel
theorem d_Pi_find_26 : decode prog_2_method_9_code 26 = .ok (.getfield 15, 3) := by decide +kernel
theorem d_Pi_find_29 : decode prog_2_method_9_code 29 = .ok (.iload 6, 2) := by decide +kernel
theorem d_Pi_find_31 : decode prog_2_method_9_code 31 = .ok (.iaload, 1) := by decide +kernel
theorem d_Pi_find_32 : decode prog_2_method_9_code 32 = .ok (.if_icmp .lt 21, 3) := by decide +kernel
theorem d_Pi_find_35 : decode prog_2_method_9_code 35 = .ok (.iload 5, 2) := by decide +kernel
theorem d_Pi_find_37 : decode prog_2_method_9_code 37 = .ok (.aload_n 0, 1) := by decide +kernel
theorem d_Pi_find_38 : decode prog_2_method_9_code 38 = .ok (.getfield 15, 3) := by decide +kernel
theorem d_Pi_find_41 : decode prog_2_method_9_code 41 = .ok (.iload 6, 2) := by decide +kernel
theorem d_Pi_find_43 : decode prog_2_method_9_code 43 = .ok (.iaload, 1) := by decide +kernel
theorem d_Pi_find_44 : decode prog_2_method_9_code 44 = .ok (.isub, 1) := by decide +kernel
theorem d_Pi_find_45 : decode prog_2_method_9_code 45 = .ok (.istore 5, 2) := by decide +kernel
theorem d_Pi_find_47 : decode prog_2_method_9_code 47 = .ok (.iinc 6 1, 3) := by decide +kernel
theorem d_Pi_find_50 : decode prog_2_method_9_code 50 = .ok (.goto (-36), 3) := by decide +kernel
theorem d_Pi_find_53 : decode prog_2_method_9_code 53 = .ok (.iload 6, 2) := by decide +kernel
theorem d_Pi_find_55 : decode prog_2_method_9_code 55 = .ok (.aload_n 0, 1) := by decide +kernel
theorem d_Pi_find_56 : decode prog_2_method_9_code 56 = .ok (.getfield 29, 3) := by decide +kernel
theorem d_Pi_find_59 : decode prog_2_method_9_code 59 = .ok (.if_icmp .eq 11, 3) := by decide +kernel
theorem d_Pi_find_62 : decode prog_2_method_9_code 62 = .ok (.aload_n 0, 1) := by decide +kernel
theorem d_Pi_find_63 : decode prog_2_method_9_code 63 = .ok (.iload 6, 2) := by decide +kernel
theorem d_Pi_find_65 : decode prog_2_method_9_code 65 = .ok (.aload_n 2, 1) := by decide +kernel
theorem d_Pi_find_66 : decode prog_2_method_9_code 66 = .ok (.aload_n 3, 1) := by decide +kernel
theorem d_Pi_find_67 : decode prog_2_method_9_code 67 = .ok (.invokevirtual 54, 3) := by decide +kernel
theorem d_Pi_find_70 : decode prog_2_method_9_code 70 = .ok (.aload_n 0, 1) := by decide +kernel
theorem d_Pi_find_71 : decode prog_2_method_9_code 71 = .ok (.iconst 0, 1) := by decide +kernel
theorem d_Pi_find_72 : decode prog_2_method_9_code 72 = .ok (.putfield 42, 3) := by decide +kernel
theorem d_Pi_find_75 : decode prog_2_method_9_code 75 = .ok (.iconst 0, 1) := by decide +kernel
theorem d_Pi_find_76 : decode prog_2_method_9_code 76 = .ok (.istore 7, 2) := by decide +kernel
theorem d_Pi_find_78 : decode prog_2_method_9_code 78 = .ok (.iload 7, 2) := by decide +kernel
theorem d_Pi_find_80 : decode prog_2_method_9_code 80 = .ok (.iload 4, 2) := by decide +kernel
theorem d_Pi_find_82 : decode prog_2_method_9_code 82 = .ok (.if_icmp .ge 38, 3) := by decide +kernel
theorem d_Pi_find_85 : decode prog_2_method_9_code 85 = .ok (.aload_n 0, 1) := by decide +kernel
theorem d_Pi_find_86 : decode prog_2_method_9_code 86 = .ok (.getfield 18, 3) := by decide +kernel
theorem d_Pi_find_89 : decode prog_2_method_9_code 89 = .ok (.iload 7, 2) := by decide +kernel
theorem d_Pi_find_91 : decode prog_2_method_9_code 91 = .ok (.laload, 1) := by decide +kernel
theorem d_Pi_find_92 : decode prog_2_method_9_code 92 = .ok (.lconst 0, 1) := by decide +kernel
theorem d_Pi_find_93 : decode prog_2_method_9_code 93 = .ok (.lcmp, 1) := by decide +kernel
theorem d_Pi_find_94 : decode prog_2_method_9_code 94 = .ok (.ifCond .eq 20, 3) := by decide +kernel
theorem d_Pi_find_97 : decode prog_2_method_9_code 97 = .ok (.iload 5, 2) := by decide +kernel
theorem d_Pi_find_99 : decode prog_2_method_9_code 99 = .ok (.ifCond .ne 12, 3) := by decide +kernel
theorem d_Pi_find_102 : decode prog_2_method_9_code 102 = .ok (.aload_n 0, 1) := by decide +kernel
theorem d_Pi_find_103 : decode prog_2_method_9_code 103 = .ok (.iload 7, 2) := by decide +kernel
theorem d_Pi_find_105 : decode prog_2_method_9_code 105 = .ok (.putfield 42, 3) := by decide +kernel
theorem d_Pi_find_108 : decode prog_2_method_9_code 108 = .ok (.goto 12, 3) := by decide +kernel
theorem d_Pi_find_111 : decode prog_2_method_9_code 111 = .ok (.iinc 5 (-1), 3) := by decide +kernel
theorem d_Pi_find_114 : decode prog_2_method_9_code 114 = .ok (.iinc 7 1, 3) := by decide +kernel
theorem d_Pi_find_117 : decode prog_2_method_9_code 117 = .ok (.goto (-39), 3) := by decide +kernel
theorem d_Pi_find_120 : decode prog_2_method_9_code 120 = .ok (.return_, 1) := by decide +kernel
theorem d_Pi_foundNumber_0 : decode prog_2_method_10_code 0 = .ok (.aload_n 0, 1) := by decide +kernel
theorem d_Pi_foundNumber_1 : decode prog_2_method_10_code 1 = .ok (.getfield 18, 3) := by decide +kernel
theorem d_Pi_foundNumber_4 : decode prog_2_method_10_code 4 = .ok (.aload_n 0, 1) := by decide +kernel
theorem d_Pi_foundNumber_5 : decode prog_2_method_10_code 5 = .ok (.getfield 42, 3) := by decide +kernel
theorem d_Pi_foundNumber_8 : decode prog_2_method_10_code 8 = .ok (.laload, 1) := by decide +kernel
theorem d_Pi_foundNumber_9 : decode prog_2_method_10_code 9 = .ok (.aload_n 0, 1) := by decide +kernel
theorem d_Pi_foundNumber_10 : decode prog_2_method_10_code 10 = .ok (.getfield 39, 3) := by decide +kernel
theorem d_Pi_foundNumber_13 : decode prog_2_method_10_code 13 = .ok (.lshl, 1) := by decide +kernel
theorem d_Pi_foundNumber_14 : decode prog_2_method_10_code 14 = .ok (.iload_n 1, 1) := by decide +kernel
theorem d_Pi_foundNumber_15 : decode prog_2_method_10_code 15 = .ok (.lshr, 1) := by decide +kernel
theorem d_Pi_foundNumber_16 : decode prog_2_method_10_code 16 = .ok (.lreturn, 1) := by decide +kernel
/-! FermionMaps$Picture.markFlips(LFermionMaps$Sum;LFermionMaps$Wiring;)V -/
def b_Pi_markFlips_24 (F : Nat) (count1 : Int32) (keys1 : Nat → Int32) (size2 : Int32) (rows2 : Nat → Int32) : Nat → Int32 → (Nat → Int32) → (Nat → Int32) → Option ((Nat → Int32) × (Nat → Int32))
  | 0, _, _, _ => none
  | n + 1, x3, flipsOf, termsAt =>
    if count1 ≤ x3 then
      some (flipsOf, termsAt)
    else
      (f_Su_upsOf F keys1 x3).bind fun u_3 =>
      (f_Su_downsOf F keys1 x3).bind fun u_4 =>
      (f_Wi_bits F size2 rows2 (u_3 ^^^ u_4)).bind fun u_5 =>
      ckI x3 60 <|
      ckI x3 60 <|
      ckI ((upd flipsOf x3.toNatClampNeg u_5) x3.toNatClampNeg) 256 <|
      nm (x3 + 1 : Int32) fun x3_9 =>
      b_Pi_markFlips_24 F count1 keys1 size2 rows2 n x3_9 (upd flipsOf x3.toNatClampNeg u_5) (upd termsAt ((upd flipsOf x3.toNatClampNeg u_5) x3.toNatClampNeg).toNatClampNeg 1)
def b_Pi_markFlips_2 (F : Nat) (count1 : Int32) (keys1 : Nat → Int32) (size2 : Int32) (rows2 : Nat → Int32) : Nat → Int32 → (Nat → Int32) → (Nat → Int32) → Option ((Nat → Int32) × (Nat → Int32))
  | 0, _, _, _ => none
  | n + 1, x3, flipsOf, termsAt =>
    if 256 ≤ x3 then
      b_Pi_markFlips_24 F count1 keys1 size2 rows2 F 0 flipsOf termsAt
    else
      ckI x3 256 <|
      nm (x3 + 1 : Int32) fun x3_11 =>
      b_Pi_markFlips_2 F count1 keys1 size2 rows2 n x3_11 flipsOf (upd termsAt x3.toNatClampNeg 0)
def f_Pi_markFlips (F : Nat) (flipsOf : Nat → Int32) (termsAt : Nat → Int32) (count1 : Int32) (keys1 : Nat → Int32) (size2 : Int32) (rows2 : Nat → Int32) : Option ((Nat → Int32) × (Nat → Int32)) :=
  b_Pi_markFlips_2 F count1 keys1 size2 rows2 F 0 flipsOf termsAt
abbrev rm_Pi_markFlips : Room := { frames := 3, cells := 0, slots := 0, locals := 64 }
set_option maxHeartbeats 4000000 in
set_option maxRecDepth 100000 in
theorem c_Pi_markFlips (l : Launch) (dC : Nat → ClassId) (dI : Nat → Nat → Nat) (cI cJ : ClassId) (a_p0 a_flipsOf a_termsAt a_p1 a_keys1 a_p2 a_rows2 z_numbers z_spread z_numbers1 z_spareKeys1 z_spareNumbers1 z_told2 z_back2 z_spareBack2 z_left2 : Nat) (sz : Nat) (drawn : Int32) (held : Int32) (terms : Int32) (widest : Int32) (halvings : Int32) (foundSigns : Int32) (flipsOf : Nat → Int32) (termsAt : Nat → Int32) (count1 : Int32) (keys1 : Nat → Int32) (size2 : Int32) (kind2 : Int32) (rows2 : Nat → Int32) (F : Nat) (u : (Nat → Int32) × (Nat → Int32)) (hf : f_Pi_markFlips F flipsOf termsAt count1 keys1 size2 rows2 = some u) : Met l y_Pi_markFlips (Cond.code y_Pi_markFlips prog_2_method_3_code 4 none :: T0) rm_Pi_markFlips (va_Pc [.ref a_p0, .ref a_p1, .ref a_p2] (Ww (dC, dI) [(a_p0, .inr (0, [.ref a_flipsOf, .ref a_termsAt, .ref z_numbers, .ref z_spread, .int drawn, .int held, .int terms, .int widest, .int halvings, .int foundSigns])), (a_flipsOf, .inl (cI, 60, .inl flipsOf)), (a_termsAt, .inl (cI, 256, .inl termsAt)), (a_p1, .inr (1, [.ref a_keys1, .ref z_numbers1, .ref z_spareKeys1, .ref z_spareNumbers1, .int count1])), (a_keys1, .inl (cI, 60, .inl keys1)), (a_p2, .inr (2, [.ref z_told2, .ref a_rows2, .ref z_back2, .ref z_spareBack2, .ref z_left2, .int size2, .int kind2])), (a_rows2, .inl (cI, 8, .inl rows2))] [(cI, .int), (cJ, .long)] sz)) (va_Qv (fun _ : Unit => True) (Bw (dC, dI) [(cI, .int), (cJ, .long)] (va_A [(a_p0, .inr (0, [.ref a_flipsOf, .ref a_termsAt, .ref z_numbers, .ref z_spread, .int drawn, .int held, .int terms, .int widest, .int halvings, .int foundSigns])), (a_flipsOf, .inl (cI, 60, .inl flipsOf)), (a_termsAt, .inl (cI, 256, .inl termsAt)), (a_p1, .inr (1, [.ref a_keys1, .ref z_numbers1, .ref z_spareKeys1, .ref z_spareNumbers1, .int count1])), (a_keys1, .inl (cI, 60, .inl keys1)), (a_p2, .inr (2, [.ref z_told2, .ref a_rows2, .ref z_back2, .ref z_spareBack2, .ref z_left2, .int size2, .int kind2])), (a_rows2, .inl (cI, 8, .inl rows2))] sz) (fun w1 => w1 = [(a_p0, .inr (0, [.ref a_flipsOf, .ref a_termsAt, .ref z_numbers, .ref z_spread, .int drawn, .int held, .int terms, .int widest, .int halvings, .int foundSigns])), (a_flipsOf, .inl (cI, 60, .inl u.1)), (a_termsAt, .inl (cI, 256, .inl u.2)), (a_p1, .inr (1, [.ref a_keys1, .ref z_numbers1, .ref z_spareKeys1, .ref z_spareNumbers1, .int count1])), (a_keys1, .inl (cI, 60, .inl keys1)), (a_p2, .inr (2, [.ref z_told2, .ref a_rows2, .ref z_back2, .ref z_spareBack2, .ref z_left2, .int size2, .int kind2])), (a_rows2, .inl (cI, 8, .inl rows2))])) (va_A [(a_p0, .inr (0, [.ref a_flipsOf, .ref a_termsAt, .ref z_numbers, .ref z_spread, .int drawn, .int held, .int terms, .int widest, .int halvings, .int foundSigns])), (a_flipsOf, .inl (cI, 60, .inl flipsOf)), (a_termsAt, .inl (cI, 256, .inl termsAt)), (a_p1, .inr (1, [.ref a_keys1, .ref z_numbers1, .ref z_spareKeys1, .ref z_spareNumbers1, .int count1])), (a_keys1, .inl (cI, 60, .inl keys1)), (a_p2, .inr (2, [.ref z_told2, .ref a_rows2, .ref z_back2, .ref z_spareBack2, .ref z_left2, .int size2, .int kind2])), (a_rows2, .inl (cI, 8, .inl rows2))] sz)) 0 0 (va_A [(a_p0, .inr (0, [.ref a_flipsOf, .ref a_termsAt, .ref z_numbers, .ref z_spread, .int drawn, .int held, .int terms, .int widest, .int halvings, .int foundSigns])), (a_flipsOf, .inl (cI, 60, .inl flipsOf)), (a_termsAt, .inl (cI, 256, .inl termsAt)), (a_p1, .inr (1, [.ref a_keys1, .ref z_numbers1, .ref z_spareKeys1, .ref z_spareNumbers1, .int count1])), (a_keys1, .inl (cI, 60, .inl keys1)), (a_p2, .inr (2, [.ref z_told2, .ref a_rows2, .ref z_back2, .ref z_spareBack2, .ref z_left2, .int size2, .int kind2])), (a_rows2, .inl (cI, 8, .inl rows2))] sz) := by
  refine Met.ofW (cc := prog_2_method_3_code) (maxL := 4) (ret := none) (by decide) rfl ?_
  intro p e s m args below meth c s₁ B hml hv
  obtain ⟨rfl, hsz, hP, hK, hD0, hNW⟩ := hv
  have hx := B.exec
  have hb := B.bytes
  have hr := B.returns
  have hts := atoms_spec (ws := Cond.code y_Pi_markFlips prog_2_method_3_code 4 none :: T0) B.pre
  have ht0 : ∀ w ∈ T0, w.before ([.ref a_p0, .ref a_p1, .ref a_p2] : List Value).toArray s = true := fun w h => hts w (List.mem_cons_of_mem _ h)
  have hown : s.vm.findClass "FermionMaps$Picture" = some m.cls := findClass_of_methodNamed B.named
  have hlocks := B.notSynchronized
  subst hsz
  have hD := hD0.self (sz := s.heap.size)
  generalize hAe : va_A [(a_p0, .inr (0, [.ref a_flipsOf, .ref a_termsAt, .ref z_numbers, .ref z_spread, .int drawn, .int held, .int terms, .int widest, .int halvings, .int foundSigns])), (a_flipsOf, .inl (cI, 60, .inl flipsOf)), (a_termsAt, .inl (cI, 256, .inl termsAt)), (a_p1, .inr (1, [.ref a_keys1, .ref z_numbers1, .ref z_spareKeys1, .ref z_spareNumbers1, .int count1])), (a_keys1, .inl (cI, 60, .inl keys1)), (a_p2, .inr (2, [.ref z_told2, .ref a_rows2, .ref z_back2, .ref z_spareBack2, .ref z_left2, .int size2, .int kind2])), (a_rows2, .inl (cI, 8, .inl rows2))] s.heap.size = A at hD ⊢
  have hA : ∀ q : Nat, s.heap.size ≤ q → A q := fun q h => by rw [← hAe]; exact Or.inr h
  have hS : va_S A s.heap s.heap [] := va_S.rf
  have hl := lv_entry ([.ref a_p0, .ref a_p1, .ref a_p2]) (n := 4) (Nat.le_of_ble_eq_true rfl)
  rw [lg_entry_eq]
  generalize (lg_sl ([.ref a_p0, .ref a_p1, .ref a_p2]) ++ List.replicate (4 - (lg_sl ([.ref a_p0, .ref a_p1, .ref a_p2])).length) Slot.unset).toArray = ls at hl ⊢
  have hl : lv_has ls 4 [(0, .ref a_p0), (1, .ref a_p1), (2, .ref a_p2)] := hl
  refine W.nameQ (fun Q hQ => ?_)
  have B_24 : ∀ (n : Nat), ∀ (x3 : Int32) (flipsOf : Nat → Int32) (termsAt : Nat → Int32) (H : Heap) (locs : List Loc) (ls : Array Slot), b_Pi_markFlips_24 F count1 keys1 size2 rows2 n x3 flipsOf termsAt = some u → va_P (dC, dI) cls [(a_p0, .inr (0, [.ref a_flipsOf, .ref a_termsAt, .ref z_numbers, .ref z_spread, .int drawn, .int held, .int terms, .int widest, .int halvings, .int foundSigns])), (a_flipsOf, .inl (cI, 60, .inl flipsOf)), (a_termsAt, .inl (cI, 256, .inl termsAt)), (a_p1, .inr (1, [.ref a_keys1, .ref z_numbers1, .ref z_spareKeys1, .ref z_spareNumbers1, .int count1])), (a_keys1, .inl (cI, 60, .inl keys1)), (a_p2, .inr (2, [.ref z_told2, .ref a_rows2, .ref z_back2, .ref z_spareBack2, .ref z_left2, .int size2, .int kind2])), (a_rows2, .inl (cI, 8, .inl rows2))] H → va_D A [(a_p0, .inr (0, [.ref a_flipsOf, .ref a_termsAt, .ref z_numbers, .ref z_spread, .int drawn, .int held, .int terms, .int widest, .int halvings, .int foundSigns])), (a_flipsOf, .inl (cI, 60, .inl flipsOf)), (a_termsAt, .inl (cI, 256, .inl termsAt)), (a_p1, .inr (1, [.ref a_keys1, .ref z_numbers1, .ref z_spareKeys1, .ref z_spareNumbers1, .int count1])), (a_keys1, .inl (cI, 60, .inl keys1)), (a_p2, .inr (2, [.ref z_told2, .ref a_rows2, .ref z_back2, .ref z_spareBack2, .ref z_left2, .int size2, .int kind2])), (a_rows2, .inl (cI, 8, .inl rows2))] → va_S A s.heap H locs → lv_has ls 4 [(0, .ref a_p0), (1, .ref a_p1), (2, .ref a_p2), (3, .int x3)] → W p l e (headSpec (Cond.code y_Pi_markFlips prog_2_method_3_code 4 none :: T0) rm_Pi_markFlips).room s m ([.ref a_p0, .ref a_p1, .ref a_p2] : List Value).toArray below meth c H locs 0 0 Q (F0 m 24 ls []) := by
    intro n
    induction n with
    | zero =>
      intro x3 flipsOf termsAt H locs ls hf hP hD hS hl
      exact no_fuel hf
    | succ n ih =>
      intro x3 flipsOf termsAt H locs ls hf hP hD hS hl
      rw [b_Pi_markFlips_24] at hf
      refine lv_iload_n hx hb d_Pi_markFlips_24 rfl (lv_at hl 3 rfl) ?_
      refine lv_aload_n hx hb d_Pi_markFlips_25 rfl (lv_at hl 1 rfl) ?_
      refine va_get (D := (dC, dI)) (ci := 1) (v := .int count1) (C := "FermionMaps$Sum") (T := F_Su) (N := 5) hx hb ht0 i_Su hown hK hP 3 rfl rfl 4 (by decide) (ht0 _ m_34) (fun _ h9 => h9) rfl d_Pi_markFlips_26 ?_
      refine lv_icmp_ge (tgt := 75) hx hb d_Pi_markFlips_29 (by decide) (fun c_2 => ?_) (fun c_2 => ?_)
      · replace hf := if_t c_2 hf
        have hu := Option.some.inj hf
        subst hu
        exact rw_v hQ rfl hP hD hK hS hx hb hr hlocks d_Pi_markFlips_75
      · replace hf := if_f c_2 hf
        refine lv_aload_n hx hb d_Pi_markFlips_32 rfl (lv_at hl 0 rfl) ?_
        refine va_get (D := (dC, dI)) (ci := 0) (v := .ref a_flipsOf) (C := "FermionMaps$Picture") (T := F_Pi) (N := 10) hx hb ht0 i_Pi hown hK hP 0 rfl rfl 0 (by decide) (ht0 _ m_89) (fun _ h9 => h9) rfl d_Pi_markFlips_33 ?_
        refine lv_iload_n hx hb d_Pi_markFlips_36 rfl (lv_at hl 3 rfl) ?_
        refine lv_aload_n hx hb d_Pi_markFlips_37 rfl (lv_at hl 2 rfl) ?_
        refine lv_aload_n hx hb d_Pi_markFlips_38 rfl (lv_at hl 2 rfl) ?_
        refine va_get (D := (dC, dI)) (ci := 2) (v := .ref a_rows2) (C := "FermionMaps$Wiring") (T := F_Wi) (N := 7) hx hb ht0 i_Wi hown hK hP 5 rfl rfl 1 (by decide) (ht0 _ m_56) (fun _ h9 => h9) rfl d_Pi_markFlips_39 ?_
        refine lv_aload_n hx hb d_Pi_markFlips_42 rfl (lv_at hl 1 rfl) ?_
        refine lv_iload_n hx hb d_Pi_markFlips_43 rfl (lv_at hl 3 rfl) ?_
        obtain ⟨u_3, h_u_3, hf⟩ := bd hf
        refine rd_i (rdV_run (As := [.int x3]) (rest := [.ref a_rows2, .ref a_p2, .int x3, .ref a_flipsOf]) ⟨hx, hb, hml, hown, ht0⟩ (c_Su_upsOf l dC dI cI cJ a_p1 a_keys1 z_numbers1 z_spareKeys1 z_spareNumbers1 count1 keys1 x3 F u_3 h_u_3) (cwV 1 ht0 (gV m_269 m_270 m_271 m_2 m_272) rfl rfl rfl (by decide +kernel) ⟨Nat.le_of_ble_eq_true rfl, Nat.le_of_ble_eq_true rfl⟩) hK hNW hP [3, 4] rfl (ci := 1) (q0 := 3) rfl rfl rfl hl.1 rfl (Nat.le_of_ble_eq_true rfl) d_Pi_markFlips_44 ⟨Nat.zero_le _, Nat.zero_le _⟩) ?_
        refine lv_aload_n hx hb d_Pi_markFlips_47 rfl (lv_at hl 1 rfl) ?_
        refine lv_iload_n hx hb d_Pi_markFlips_48 rfl (lv_at hl 3 rfl) ?_
        obtain ⟨u_4, h_u_4, hf⟩ := bd hf
        refine rd_i (rdV_run (As := [.int x3]) (rest := [.int u_3, .ref a_rows2, .ref a_p2, .int x3, .ref a_flipsOf]) ⟨hx, hb, hml, hown, ht0⟩ (c_Su_downsOf l dC dI cI cJ a_p1 a_keys1 z_numbers1 z_spareKeys1 z_spareNumbers1 count1 keys1 x3 F u_4 h_u_4) (cwV 1 ht0 (gV m_273 m_274 m_275 m_2 m_276) rfl rfl rfl (by decide +kernel) ⟨Nat.le_of_ble_eq_true rfl, Nat.le_of_ble_eq_true rfl⟩) hK hNW hP [3, 4] rfl (ci := 1) (q0 := 3) rfl rfl rfl hl.1 rfl (Nat.le_of_ble_eq_true rfl) d_Pi_markFlips_49 ⟨Nat.zero_le _, Nat.zero_le _⟩) ?_
        refine lv_ixor hx hb d_Pi_markFlips_52 ?_
        obtain ⟨u_5, h_u_5, hf⟩ := bd hf
        refine rd_i (rdV_run (As := [.ref a_rows2, .int (u_3 ^^^ u_4)]) (rest := [.int x3, .ref a_flipsOf]) ⟨hx, hb, hml, hown, ht0⟩ (c_Wi_bits l dC dI cI cJ a_p2 a_rows2 z_told2 a_rows2 z_back2 z_spareBack2 z_left2 size2 kind2 rows2 (u_3 ^^^ u_4) F u_5 h_u_5) (cwV 2 ht0 (gV m_277 m_249 m_250 m_3 m_251) rfl rfl rfl (by decide +kernel) ⟨Nat.le_of_ble_eq_true rfl, Nat.le_of_ble_eq_true rfl⟩) hK hNW hP [5, 6] rfl (ci := 2) (q0 := 5) rfl rfl rfl hl.1 rfl (Nat.le_of_ble_eq_true rfl) d_Pi_markFlips_53 ⟨Nat.zero_le _, Nat.zero_le _⟩) ?_
        obtain ⟨hi_6, hf⟩ := ckI_ok hf
        refine va_iast hx hb hK hP hD hS 1 0 rfl rfl hi_6 d_Pi_markFlips_56 (fun H locs hP hD hS => ?_)
        have hP : va_P (dC, dI) cls [(a_p0, .inr (0, [.ref a_flipsOf, .ref a_termsAt, .ref z_numbers, .ref z_spread, .int drawn, .int held, .int terms, .int widest, .int halvings, .int foundSigns])), (a_flipsOf, .inl (cI, 60, .inl (upd flipsOf x3.toNatClampNeg u_5))), (a_termsAt, .inl (cI, 256, .inl termsAt)), (a_p1, .inr (1, [.ref a_keys1, .ref z_numbers1, .ref z_spareKeys1, .ref z_spareNumbers1, .int count1])), (a_keys1, .inl (cI, 60, .inl keys1)), (a_p2, .inr (2, [.ref z_told2, .ref a_rows2, .ref z_back2, .ref z_spareBack2, .ref z_left2, .int size2, .int kind2])), (a_rows2, .inl (cI, 8, .inl rows2))] H := hP
        have hD : va_D A [(a_p0, .inr (0, [.ref a_flipsOf, .ref a_termsAt, .ref z_numbers, .ref z_spread, .int drawn, .int held, .int terms, .int widest, .int halvings, .int foundSigns])), (a_flipsOf, .inl (cI, 60, .inl (upd flipsOf x3.toNatClampNeg u_5))), (a_termsAt, .inl (cI, 256, .inl termsAt)), (a_p1, .inr (1, [.ref a_keys1, .ref z_numbers1, .ref z_spareKeys1, .ref z_spareNumbers1, .int count1])), (a_keys1, .inl (cI, 60, .inl keys1)), (a_p2, .inr (2, [.ref z_told2, .ref a_rows2, .ref z_back2, .ref z_spareBack2, .ref z_left2, .int size2, .int kind2])), (a_rows2, .inl (cI, 8, .inl rows2))] := hD
        refine lv_aload_n hx hb d_Pi_markFlips_57 rfl (lv_at hl 0 rfl) ?_
        refine va_get (D := (dC, dI)) (ci := 0) (v := .ref a_termsAt) (C := "FermionMaps$Picture") (T := F_Pi) (N := 10) hx hb ht0 i_Pi hown hK hP 0 rfl rfl 1 (by decide) (ht0 _ m_90) (fun _ h9 => h9) rfl d_Pi_markFlips_58 ?_
        refine lv_aload_n hx hb d_Pi_markFlips_61 rfl (lv_at hl 0 rfl) ?_
        refine va_get (D := (dC, dI)) (ci := 0) (v := .ref a_flipsOf) (C := "FermionMaps$Picture") (T := F_Pi) (N := 10) hx hb ht0 i_Pi hown hK hP 0 rfl rfl 0 (by decide) (ht0 _ m_89) (fun _ h9 => h9) rfl d_Pi_markFlips_62 ?_
        refine lv_iload_n hx hb d_Pi_markFlips_65 rfl (lv_at hl 3 rfl) ?_
        obtain ⟨hi_7, hf⟩ := ckI_ok hf
        refine va_iald hx hb hK hP 1 0 rfl rfl hi_7 d_Pi_markFlips_66 ?_
        refine lv_iconst (v := 1) hx hb d_Pi_markFlips_67 (by decide) ?_
        obtain ⟨hi_8, hf⟩ := ckI_ok hf
        refine va_iast hx hb hK hP hD hS 2 0 rfl rfl hi_8 d_Pi_markFlips_68 (fun H locs hP hD hS => ?_)
        have hP : va_P (dC, dI) cls [(a_p0, .inr (0, [.ref a_flipsOf, .ref a_termsAt, .ref z_numbers, .ref z_spread, .int drawn, .int held, .int terms, .int widest, .int halvings, .int foundSigns])), (a_flipsOf, .inl (cI, 60, .inl (upd flipsOf x3.toNatClampNeg u_5))), (a_termsAt, .inl (cI, 256, .inl (upd termsAt ((upd flipsOf x3.toNatClampNeg u_5) x3.toNatClampNeg).toNatClampNeg 1))), (a_p1, .inr (1, [.ref a_keys1, .ref z_numbers1, .ref z_spareKeys1, .ref z_spareNumbers1, .int count1])), (a_keys1, .inl (cI, 60, .inl keys1)), (a_p2, .inr (2, [.ref z_told2, .ref a_rows2, .ref z_back2, .ref z_spareBack2, .ref z_left2, .int size2, .int kind2])), (a_rows2, .inl (cI, 8, .inl rows2))] H := hP
        have hD : va_D A [(a_p0, .inr (0, [.ref a_flipsOf, .ref a_termsAt, .ref z_numbers, .ref z_spread, .int drawn, .int held, .int terms, .int widest, .int halvings, .int foundSigns])), (a_flipsOf, .inl (cI, 60, .inl (upd flipsOf x3.toNatClampNeg u_5))), (a_termsAt, .inl (cI, 256, .inl (upd termsAt ((upd flipsOf x3.toNatClampNeg u_5) x3.toNatClampNeg).toNatClampNeg 1))), (a_p1, .inr (1, [.ref a_keys1, .ref z_numbers1, .ref z_spareKeys1, .ref z_spareNumbers1, .int count1])), (a_keys1, .inl (cI, 60, .inl keys1)), (a_p2, .inr (2, [.ref z_told2, .ref a_rows2, .ref z_back2, .ref z_spareBack2, .ref z_left2, .int size2, .int kind2])), (a_rows2, .inl (cI, 8, .inl rows2))] := hD
        obtain ⟨x3_9, e_x3_9⟩ : ∃ y : Int32, y = x3 + 1 := ⟨_, rfl⟩
        replace hf := nm_eq e_x3_9 hf
        refine lv_iinc (v := x3_9) (lv' := [(3, .int x3_9), (0, .ref a_p0), (1, .ref a_p1), (2, .ref a_p2)]) hx hb d_Pi_markFlips_69 hl (k := 3) rfl (by rw [e_x3_9]; rfl) (by decide) rfl (fun ls hl => ?_)
        refine lv_goto (tgt := 24) hx hb d_Pi_markFlips_72 (by decide) ?_
        exact ih x3_9 (upd flipsOf x3.toNatClampNeg u_5) (upd termsAt ((upd flipsOf x3.toNatClampNeg u_5) x3.toNatClampNeg).toNatClampNeg 1) H locs ls hf hP hD hS (lv_sub hl [1, 2, 3, 0] rfl)
  have B_2 : ∀ (n : Nat), ∀ (x3 : Int32) (flipsOf : Nat → Int32) (termsAt : Nat → Int32) (H : Heap) (locs : List Loc) (ls : Array Slot), b_Pi_markFlips_2 F count1 keys1 size2 rows2 n x3 flipsOf termsAt = some u → va_P (dC, dI) cls [(a_p0, .inr (0, [.ref a_flipsOf, .ref a_termsAt, .ref z_numbers, .ref z_spread, .int drawn, .int held, .int terms, .int widest, .int halvings, .int foundSigns])), (a_flipsOf, .inl (cI, 60, .inl flipsOf)), (a_termsAt, .inl (cI, 256, .inl termsAt)), (a_p1, .inr (1, [.ref a_keys1, .ref z_numbers1, .ref z_spareKeys1, .ref z_spareNumbers1, .int count1])), (a_keys1, .inl (cI, 60, .inl keys1)), (a_p2, .inr (2, [.ref z_told2, .ref a_rows2, .ref z_back2, .ref z_spareBack2, .ref z_left2, .int size2, .int kind2])), (a_rows2, .inl (cI, 8, .inl rows2))] H → va_D A [(a_p0, .inr (0, [.ref a_flipsOf, .ref a_termsAt, .ref z_numbers, .ref z_spread, .int drawn, .int held, .int terms, .int widest, .int halvings, .int foundSigns])), (a_flipsOf, .inl (cI, 60, .inl flipsOf)), (a_termsAt, .inl (cI, 256, .inl termsAt)), (a_p1, .inr (1, [.ref a_keys1, .ref z_numbers1, .ref z_spareKeys1, .ref z_spareNumbers1, .int count1])), (a_keys1, .inl (cI, 60, .inl keys1)), (a_p2, .inr (2, [.ref z_told2, .ref a_rows2, .ref z_back2, .ref z_spareBack2, .ref z_left2, .int size2, .int kind2])), (a_rows2, .inl (cI, 8, .inl rows2))] → va_S A s.heap H locs → lv_has ls 4 [(0, .ref a_p0), (1, .ref a_p1), (2, .ref a_p2), (3, .int x3)] → W p l e (headSpec (Cond.code y_Pi_markFlips prog_2_method_3_code 4 none :: T0) rm_Pi_markFlips).room s m ([.ref a_p0, .ref a_p1, .ref a_p2] : List Value).toArray below meth c H locs 0 0 Q (F0 m 2 ls []) := by
    intro n
    induction n with
    | zero =>
      intro x3 flipsOf termsAt H locs ls hf hP hD hS hl
      exact no_fuel hf
    | succ n ih =>
      intro x3 flipsOf termsAt H locs ls hf hP hD hS hl
      rw [b_Pi_markFlips_2] at hf
      refine lv_iload_n hx hb d_Pi_markFlips_2 rfl (lv_at hl 3 rfl) ?_
      refine lv_sipush (v := 256) hx hb d_Pi_markFlips_3 (by decide) ?_
      refine lv_icmp_ge (tgt := 22) hx hb d_Pi_markFlips_6 (by decide) (fun c_1 => ?_) (fun c_1 => ?_)
      · replace hf := if_t c_1 hf
        refine lv_iconst (v := 0) hx hb d_Pi_markFlips_22 (by decide) ?_
        refine lv_istore_n (lv' := [(3, .int 0), (0, .ref a_p0), (1, .ref a_p1), (2, .ref a_p2)]) hx hb d_Pi_markFlips_23 rfl hl (by decide) rfl (fun ls hl => ?_)
        exact B_24 F 0 flipsOf termsAt H locs ls hf hP hD hS (lv_sub hl [1, 2, 3, 0] rfl)
      · replace hf := if_f c_1 hf
        refine lv_aload_n hx hb d_Pi_markFlips_9 rfl (lv_at hl 0 rfl) ?_
        refine va_get (D := (dC, dI)) (ci := 0) (v := .ref a_termsAt) (C := "FermionMaps$Picture") (T := F_Pi) (N := 10) hx hb ht0 i_Pi hown hK hP 0 rfl rfl 1 (by decide) (ht0 _ m_90) (fun _ h9 => h9) rfl d_Pi_markFlips_10 ?_
        refine lv_iload_n hx hb d_Pi_markFlips_13 rfl (lv_at hl 3 rfl) ?_
        refine lv_iconst (v := 0) hx hb d_Pi_markFlips_14 (by decide) ?_
        obtain ⟨hi_10, hf⟩ := ckI_ok hf
        refine va_iast hx hb hK hP hD hS 2 0 rfl rfl hi_10 d_Pi_markFlips_15 (fun H locs hP hD hS => ?_)
        have hP : va_P (dC, dI) cls [(a_p0, .inr (0, [.ref a_flipsOf, .ref a_termsAt, .ref z_numbers, .ref z_spread, .int drawn, .int held, .int terms, .int widest, .int halvings, .int foundSigns])), (a_flipsOf, .inl (cI, 60, .inl flipsOf)), (a_termsAt, .inl (cI, 256, .inl (upd termsAt x3.toNatClampNeg 0))), (a_p1, .inr (1, [.ref a_keys1, .ref z_numbers1, .ref z_spareKeys1, .ref z_spareNumbers1, .int count1])), (a_keys1, .inl (cI, 60, .inl keys1)), (a_p2, .inr (2, [.ref z_told2, .ref a_rows2, .ref z_back2, .ref z_spareBack2, .ref z_left2, .int size2, .int kind2])), (a_rows2, .inl (cI, 8, .inl rows2))] H := hP
        have hD : va_D A [(a_p0, .inr (0, [.ref a_flipsOf, .ref a_termsAt, .ref z_numbers, .ref z_spread, .int drawn, .int held, .int terms, .int widest, .int halvings, .int foundSigns])), (a_flipsOf, .inl (cI, 60, .inl flipsOf)), (a_termsAt, .inl (cI, 256, .inl (upd termsAt x3.toNatClampNeg 0))), (a_p1, .inr (1, [.ref a_keys1, .ref z_numbers1, .ref z_spareKeys1, .ref z_spareNumbers1, .int count1])), (a_keys1, .inl (cI, 60, .inl keys1)), (a_p2, .inr (2, [.ref z_told2, .ref a_rows2, .ref z_back2, .ref z_spareBack2, .ref z_left2, .int size2, .int kind2])), (a_rows2, .inl (cI, 8, .inl rows2))] := hD
        obtain ⟨x3_11, e_x3_11⟩ : ∃ y : Int32, y = x3 + 1 := ⟨_, rfl⟩
        replace hf := nm_eq e_x3_11 hf
        refine lv_iinc (v := x3_11) (lv' := [(3, .int x3_11), (0, .ref a_p0), (1, .ref a_p1), (2, .ref a_p2)]) hx hb d_Pi_markFlips_16 hl (k := 3) rfl (by rw [e_x3_11]; rfl) (by decide) rfl (fun ls hl => ?_)
        refine lv_goto (tgt := 2) hx hb d_Pi_markFlips_19 (by decide) ?_
        exact ih x3_11 flipsOf (upd termsAt x3.toNatClampNeg 0) H locs ls hf hP hD hS (lv_sub hl [1, 2, 3, 0] rfl)
  rw [f_Pi_markFlips] at hf
  refine lv_iconst (v := 0) hx hb d_Pi_markFlips_0 (by decide) ?_
  refine lv_istore_n (lv' := [(3, .int 0), (0, .ref a_p0), (1, .ref a_p1), (2, .ref a_p2)]) hx hb d_Pi_markFlips_1 rfl hl (by decide) rfl (fun ls hl => ?_)
  exact B_2 F 0 flipsOf termsAt s.heap [] ls hf hP hD hS (lv_sub hl [1, 2, 3, 0] rfl)

/-! FermionMaps$Picture.doubled(II)I -/
def b_Pi_doubled_2 (F : Nat) : Nat → Int32 → Int32 → Int32 → (Nat → Int32) → Option (Int32 × (Nat → Int32))
  | 0, _, _, _, _ => none
  | n + 1, x1, x2, x3, spread =>
    if x1 ≤ x3 then
      some ((2 * x1), spread)
    else
      ckI x3 256 <|
      nm (((spread x3.toNatClampNeg) ^^^ x2) : Int32) fun t_3 =>
      ckI (x1 + x3) 256 <|
      nm (x3 + 1 : Int32) fun x3_5 =>
      b_Pi_doubled_2 F n x1 x2 x3_5 (upd spread (x1 + x3).toNatClampNeg t_3)
def f_Pi_doubled (F : Nat) (spread : Nat → Int32) (p1 : Int32) (p2 : Int32) : Option (Int32 × (Nat → Int32)) :=
  b_Pi_doubled_2 F F p1 p2 0 spread
abbrev rm_Pi_doubled : Room := { frames := 0, cells := 0, slots := 0, locals := 0 }
set_option maxHeartbeats 4000000 in
set_option maxRecDepth 100000 in
theorem c_Pi_doubled (l : Launch) (dC : Nat → ClassId) (dI : Nat → Nat → Nat) (cI cJ : ClassId) (a_p0 a_spread z_flipsOf z_termsAt z_numbers : Nat) (sz : Nat) (drawn : Int32) (held : Int32) (terms : Int32) (widest : Int32) (halvings : Int32) (foundSigns : Int32) (spread : Nat → Int32) (p1 : Int32) (p2 : Int32) (F : Nat) (u : Int32 × (Nat → Int32)) (hf : f_Pi_doubled F spread p1 p2 = some u) : Met l y_Pi_doubled (Cond.code y_Pi_doubled prog_2_method_8_code 4 (some .int) :: T0) rm_Pi_doubled (va_Pc [.ref a_p0, .int p1, .int p2] (Ww (dC, dI) [(a_p0, .inr (0, [.ref z_flipsOf, .ref z_termsAt, .ref z_numbers, .ref a_spread, .int drawn, .int held, .int terms, .int widest, .int halvings, .int foundSigns])), (a_spread, .inl (cI, 256, .inl spread))] [(cI, .int), (cJ, .long)] sz)) (va_Qi (fun r (_ : Unit) => r = u.1) (Bw (dC, dI) [(cI, .int), (cJ, .long)] (va_A [(a_p0, .inr (0, [.ref z_flipsOf, .ref z_termsAt, .ref z_numbers, .ref a_spread, .int drawn, .int held, .int terms, .int widest, .int halvings, .int foundSigns])), (a_spread, .inl (cI, 256, .inl spread))] sz) (fun w1 => w1 = [(a_p0, .inr (0, [.ref z_flipsOf, .ref z_termsAt, .ref z_numbers, .ref a_spread, .int drawn, .int held, .int terms, .int widest, .int halvings, .int foundSigns])), (a_spread, .inl (cI, 256, .inl u.2))])) (va_A [(a_p0, .inr (0, [.ref z_flipsOf, .ref z_termsAt, .ref z_numbers, .ref a_spread, .int drawn, .int held, .int terms, .int widest, .int halvings, .int foundSigns])), (a_spread, .inl (cI, 256, .inl spread))] sz)) 0 0 (va_A [(a_p0, .inr (0, [.ref z_flipsOf, .ref z_termsAt, .ref z_numbers, .ref a_spread, .int drawn, .int held, .int terms, .int widest, .int halvings, .int foundSigns])), (a_spread, .inl (cI, 256, .inl spread))] sz) := by
  refine Met.ofW (cc := prog_2_method_8_code) (maxL := 4) (ret := (some .int)) (by decide) rfl ?_
  intro p e s m args below meth c s₁ B hml hv
  obtain ⟨rfl, hsz, hP, hK, hD0, hNW⟩ := hv
  have hx := B.exec
  have hb := B.bytes
  have hr := B.returns
  have hts := atoms_spec (ws := Cond.code y_Pi_doubled prog_2_method_8_code 4 (some .int) :: T0) B.pre
  have ht0 : ∀ w ∈ T0, w.before ([.ref a_p0, .int p1, .int p2] : List Value).toArray s = true := fun w h => hts w (List.mem_cons_of_mem _ h)
  have hown : s.vm.findClass "FermionMaps$Picture" = some m.cls := findClass_of_methodNamed B.named
  have hlocks := B.notSynchronized
  subst hsz
  have hD := hD0.self (sz := s.heap.size)
  generalize hAe : va_A [(a_p0, .inr (0, [.ref z_flipsOf, .ref z_termsAt, .ref z_numbers, .ref a_spread, .int drawn, .int held, .int terms, .int widest, .int halvings, .int foundSigns])), (a_spread, .inl (cI, 256, .inl spread))] s.heap.size = A at hD ⊢
  have hA : ∀ q : Nat, s.heap.size ≤ q → A q := fun q h => by rw [← hAe]; exact Or.inr h
  have hS : va_S A s.heap s.heap [] := va_S.rf
  have hl := lv_entry ([.ref a_p0, .int p1, .int p2]) (n := 4) (Nat.le_of_ble_eq_true rfl)
  rw [lg_entry_eq]
  generalize (lg_sl ([.ref a_p0, .int p1, .int p2]) ++ List.replicate (4 - (lg_sl ([.ref a_p0, .int p1, .int p2])).length) Slot.unset).toArray = ls at hl ⊢
  have hl : lv_has ls 4 [(0, .ref a_p0), (1, .int p1), (2, .int p2)] := hl
  refine W.nameQ (fun Q hQ => ?_)
  have B_2 : ∀ (n : Nat), ∀ (x1 : Int32) (x2 : Int32) (x3 : Int32) (spread : Nat → Int32) (H : Heap) (locs : List Loc) (ls : Array Slot), b_Pi_doubled_2 F n x1 x2 x3 spread = some u → va_P (dC, dI) cls [(a_p0, .inr (0, [.ref z_flipsOf, .ref z_termsAt, .ref z_numbers, .ref a_spread, .int drawn, .int held, .int terms, .int widest, .int halvings, .int foundSigns])), (a_spread, .inl (cI, 256, .inl spread))] H → va_D A [(a_p0, .inr (0, [.ref z_flipsOf, .ref z_termsAt, .ref z_numbers, .ref a_spread, .int drawn, .int held, .int terms, .int widest, .int halvings, .int foundSigns])), (a_spread, .inl (cI, 256, .inl spread))] → va_S A s.heap H locs → lv_has ls 4 [(0, .ref a_p0), (1, .int x1), (2, .int x2), (3, .int x3)] → W p l e (headSpec (Cond.code y_Pi_doubled prog_2_method_8_code 4 (some .int) :: T0) rm_Pi_doubled).room s m ([.ref a_p0, .int p1, .int p2] : List Value).toArray below meth c H locs 0 0 Q (F0 m 2 ls []) := by
    intro n
    induction n with
    | zero =>
      intro x1 x2 x3 spread H locs ls hf hP hD hS hl
      exact no_fuel hf
    | succ n ih =>
      intro x1 x2 x3 spread H locs ls hf hP hD hS hl
      rw [b_Pi_doubled_2] at hf
      refine lv_iload_n hx hb d_Pi_doubled_2 rfl (lv_at hl 3 rfl) ?_
      refine lv_iload_n hx hb d_Pi_doubled_3 rfl (lv_at hl 1 rfl) ?_
      refine lv_icmp_ge (tgt := 29) hx hb d_Pi_doubled_4 (by decide) (fun c_1 => ?_) (fun c_1 => ?_)
      · replace hf := if_t c_1 hf
        refine lv_iconst (v := 2) hx hb d_Pi_doubled_29 (by decide) ?_
        refine lv_iload_n hx hb d_Pi_doubled_30 rfl (lv_at hl 1 rfl) ?_
        refine lv_imul hx hb d_Pi_doubled_31 ?_
        have hu := Option.some.inj hf
        subst hu
        exact rw_i hQ rfl rfl hP hD hK hS hx hb hr hlocks d_Pi_doubled_32
      · replace hf := if_f c_1 hf
        refine lv_aload_n hx hb d_Pi_doubled_7 rfl (lv_at hl 0 rfl) ?_
        refine va_get (D := (dC, dI)) (ci := 0) (v := .ref a_spread) (C := "FermionMaps$Picture") (T := F_Pi) (N := 10) hx hb ht0 i_Pi hown hK hP 0 rfl rfl 3 (by decide) (ht0 _ m_92) (fun _ h9 => h9) rfl d_Pi_doubled_8 ?_
        refine lv_iload_n hx hb d_Pi_doubled_11 rfl (lv_at hl 1 rfl) ?_
        refine lv_iload_n hx hb d_Pi_doubled_12 rfl (lv_at hl 3 rfl) ?_
        refine lv_iadd hx hb d_Pi_doubled_13 ?_
        refine lv_aload_n hx hb d_Pi_doubled_14 rfl (lv_at hl 0 rfl) ?_
        refine va_get (D := (dC, dI)) (ci := 0) (v := .ref a_spread) (C := "FermionMaps$Picture") (T := F_Pi) (N := 10) hx hb ht0 i_Pi hown hK hP 0 rfl rfl 3 (by decide) (ht0 _ m_92) (fun _ h9 => h9) rfl d_Pi_doubled_15 ?_
        refine lv_iload_n hx hb d_Pi_doubled_18 rfl (lv_at hl 3 rfl) ?_
        obtain ⟨hi_2, hf⟩ := ckI_ok hf
        refine va_iald hx hb hK hP 1 0 rfl rfl hi_2 d_Pi_doubled_19 ?_
        refine lv_iload_n hx hb d_Pi_doubled_20 rfl (lv_at hl 2 rfl) ?_
        refine lv_ixor hx hb d_Pi_doubled_21 ?_
        refine lv_topi (fun t_3 e_t_3 => ?_)
        replace hf := nm_eq e_t_3 hf
        obtain ⟨hi_4, hf⟩ := ckI_ok hf
        refine va_iast hx hb hK hP hD hS 1 0 rfl rfl hi_4 d_Pi_doubled_22 (fun H locs hP hD hS => ?_)
        have hP : va_P (dC, dI) cls [(a_p0, .inr (0, [.ref z_flipsOf, .ref z_termsAt, .ref z_numbers, .ref a_spread, .int drawn, .int held, .int terms, .int widest, .int halvings, .int foundSigns])), (a_spread, .inl (cI, 256, .inl (upd spread (x1 + x3).toNatClampNeg t_3)))] H := hP
        have hD : va_D A [(a_p0, .inr (0, [.ref z_flipsOf, .ref z_termsAt, .ref z_numbers, .ref a_spread, .int drawn, .int held, .int terms, .int widest, .int halvings, .int foundSigns])), (a_spread, .inl (cI, 256, .inl (upd spread (x1 + x3).toNatClampNeg t_3)))] := hD
        obtain ⟨x3_5, e_x3_5⟩ : ∃ y : Int32, y = x3 + 1 := ⟨_, rfl⟩
        replace hf := nm_eq e_x3_5 hf
        refine lv_iinc (v := x3_5) (lv' := [(3, .int x3_5), (0, .ref a_p0), (1, .int x1), (2, .int x2)]) hx hb d_Pi_doubled_23 hl (k := 3) rfl (by rw [e_x3_5]; rfl) (by decide) rfl (fun ls hl => ?_)
        refine lv_goto (tgt := 2) hx hb d_Pi_doubled_26 (by decide) ?_
        exact ih x1 x2 x3_5 (upd spread (x1 + x3).toNatClampNeg t_3) H locs ls hf hP hD hS (lv_sub hl [1, 2, 3, 0] rfl)
  rw [f_Pi_doubled] at hf
  refine lv_iconst (v := 0) hx hb d_Pi_doubled_0 (by decide) ?_
  refine lv_istore_n (lv' := [(3, .int 0), (0, .ref a_p0), (1, .int p1), (2, .int p2)]) hx hb d_Pi_doubled_1 rfl hl (by decide) rfl (fun ls hl => ?_)
  exact B_2 F p1 p2 0 spread s.heap [] ls hf hP hD hS (lv_sub hl [1, 2, 3, 0] rfl)

/-! FermionMaps$Picture.bring(IIILFermionMaps$Wiring;)V -/
def b_Pi_bring_180 (F : Nat) (k_135 : Int32 → Int64 → Int32 → (Nat → Int64) → (Nat → Int32) → Option ((Nat → Int64) × (Nat → Int32))) (size4 : Int32) (back4 : Nat → Int32) (x7 : Int32) (x8 : Int64) (x10 : Int32) (s1 : Int32) (s2 : Int64) (s3 : Int64) (numbers : Nat → Int64) (spread : Nat → Int32) : Option ((Nat → Int64) × (Nat → Int32)) :=
  nm ((s2 + s3) : Int64) fun t_17 =>
  ckI s1 256 <|
  nm (x10 + 1 : Int32) fun x10_19 =>
  k_135 x7 x8 x10_19 (vp_updL numbers s1.toNatClampNeg t_17) spread
def b_Pi_bring_135 (F : Nat) (size4 : Int32) (back4 : Nat → Int32) : Nat → Int32 → Int64 → Int32 → (Nat → Int64) → (Nat → Int32) → Option ((Nat → Int64) × (Nat → Int32))
  | 0, _, _, _, _, _ => none
  | n + 1, x7, x8, x10, numbers, spread =>
    if x7 ≤ x10 then
      some (numbers, spread)
    else
      ckI x10 256 <|
      nm (((spread x10.toNatClampNeg) &&& 255) : Int32) fun t_13 =>
      ckI t_13 256 <|
      ckI x10 256 <|
      if (spread x10.toNatClampNeg) < 256 then
        b_Pi_bring_180 F (b_Pi_bring_135 F size4 back4 n) size4 back4 x7 x8 x10 t_13 (numbers t_13.toNatClampNeg) x8 numbers spread
      else
        b_Pi_bring_180 F (b_Pi_bring_135 F size4 back4 n) size4 back4 x7 x8 x10 t_13 (numbers t_13.toNatClampNeg) (-x8) numbers spread
def b_Pi_bring_110 (F : Nat) (k_52 : Int32 → Int32 → Int32 → Int32 → Int32 → (Nat → Int64) → (Nat → Int32) → Option ((Nat → Int64) × (Nat → Int32))) (size4 : Int32) (back4 : Nat → Int32) (x2 : Int32) (x3 : Int32) (x5 : Int32) (x7 : Int32) (x8 : Int32) (numbers : Nat → Int64) (spread : Nat → Int32) : Option ((Nat → Int64) × (Nat → Int32)) :=
  nm (x8 + 1 : Int32) fun x8_22 =>
  k_52 x2 x3 x5 x7 x8_22 numbers spread
def b_Pi_bring_105 (F : Nat) (k_52 : Int32 → Int32 → Int32 → Int32 → Int32 → (Nat → Int64) → (Nat → Int32) → Option ((Nat → Int64) × (Nat → Int32))) (size4 : Int32) (back4 : Nat → Int32) (x2 : Int32) (x3 : Int32) (x5 : Int32) (x8 : Int32) (s1 : Int32) (s2 : Int32) (numbers : Nat → Int64) (spread : Nat → Int32) : Option ((Nat → Int64) × (Nat → Int32)) :=
  (f_Pi_doubled F spread s1 s2).bind fun u_27 =>
  b_Pi_bring_110 F k_52 size4 back4 x2 x3 x5 u_27.1 x8 numbers u_27.2
def b_Pi_bring_52 (F : Nat) (size4 : Int32) (back4 : Nat → Int32) : Nat → Int32 → Int32 → Int32 → Int32 → Int32 → (Nat → Int64) → (Nat → Int32) → Option ((Nat → Int64) × (Nat → Int32))
  | 0, _, _, _, _, _, _, _ => none
  | n + 1, x2, x3, x5, x7, x8, numbers, spread =>
    if size4 ≤ x8 then
      (f_In_bitCount F x5).bind fun u_9 =>
      nm (((x3.toInt64) <<< ((size4 - u_9).toInt64 &&& 63)) : Int64) fun x8_10 =>
      b_Pi_bring_135 F size4 back4 F x7 x8_10 0 numbers spread
    else
      (f_FM_has F x5 x8).bind fun u_20 =>
      if u_20 = 0 then
        b_Pi_bring_110 F (b_Pi_bring_52 F size4 back4 n) size4 back4 x2 x3 x5 x7 x8 numbers spread
      else
        ckI x8 8 <|
        nm ((back4 x8.toNatClampNeg) : Int32) fun x9_24 =>
        (f_FM_has F x2 x8).bind fun u_25 =>
        if u_25 = 0 then
          b_Pi_bring_105 F (b_Pi_bring_52 F size4 back4 n) size4 back4 x2 x3 x5 x8 x7 x9_24 numbers spread
        else
          b_Pi_bring_105 F (b_Pi_bring_52 F size4 back4 n) size4 back4 x2 x3 x5 x8 x7 (x9_24 + 256) numbers spread
def b_Pi_bring_45 (F : Nat) (size4 : Int32) (back4 : Nat → Int32) (x2 : Int32) (x3 : Int32) (x5 : Int32) (s1 : Int32) (s2 : Int32) (numbers : Nat → Int64) (spread : Nat → Int32) : Option ((Nat → Int64) × (Nat → Int32)) :=
  ckI s1 256 <|
  b_Pi_bring_52 F size4 back4 F x2 x3 x5 1 0 numbers (upd spread s1.toNatClampNeg s2)
def f_Pi_bring (F : Nat) (numbers : Nat → Int64) (spread : Nat → Int32) (size4 : Int32) (back4 : Nat → Int32) (p1 : Int32) (p2 : Int32) (p3 : Int32) : Option ((Nat → Int64) × (Nat → Int32)) :=
  nm ((p1 ||| p2) : Int32) fun x5_1 =>
  (f_FM_oddBelow F p1).bind fun u_2 =>
  (f_FM_oddBelow F p2).bind fun u_3 =>
  (f_Wi_signsOf F size4 back4 (u_2 ^^^ u_3)).bind fun u_4 =>
  (f_FM_turnsAlways F p1 p2).bind fun u_5 =>
  if u_5 = 0 then
    b_Pi_bring_45 F size4 back4 p2 p3 x5_1 0 u_4 numbers spread
  else
    b_Pi_bring_45 F size4 back4 p2 p3 x5_1 0 (u_4 + 256) numbers spread
abbrev rm_Pi_bring : Room := { frames := 3, cells := 0, slots := 0, locals := 61 }
set_option maxHeartbeats 4000000 in
set_option maxRecDepth 100000 in
theorem c_Pi_bring (l : Launch) (dC : Nat → ClassId) (dI : Nat → Nat → Nat) (cI cJ : ClassId) (a_p0 a_numbers a_spread a_p4 a_back4 z_flipsOf z_termsAt z_told4 z_rows4 z_spareBack4 z_left4 : Nat) (sz : Nat) (drawn : Int32) (held : Int32) (terms : Int32) (widest : Int32) (halvings : Int32) (foundSigns : Int32) (numbers : Nat → Int64) (spread : Nat → Int32) (size4 : Int32) (kind4 : Int32) (back4 : Nat → Int32) (p1 : Int32) (p2 : Int32) (p3 : Int32) (F : Nat) (u : (Nat → Int64) × (Nat → Int32)) (hf : f_Pi_bring F numbers spread size4 back4 p1 p2 p3 = some u) : Met l y_Pi_bring (Cond.code y_Pi_bring prog_2_method_7_code 11 none :: T0) rm_Pi_bring (va_Pc [.ref a_p0, .int p1, .int p2, .int p3, .ref a_p4] (Ww (dC, dI) [(a_p0, .inr (0, [.ref z_flipsOf, .ref z_termsAt, .ref a_numbers, .ref a_spread, .int drawn, .int held, .int terms, .int widest, .int halvings, .int foundSigns])), (a_numbers, .inl (cJ, 256, .inr (.inl numbers))), (a_spread, .inl (cI, 256, .inl spread)), (a_p4, .inr (2, [.ref z_told4, .ref z_rows4, .ref a_back4, .ref z_spareBack4, .ref z_left4, .int size4, .int kind4])), (a_back4, .inl (cI, 8, .inl back4))] [(cI, .int), (cJ, .long)] sz)) (va_Qv (fun _ : Unit => True) (Bw (dC, dI) [(cI, .int), (cJ, .long)] (va_A [(a_p0, .inr (0, [.ref z_flipsOf, .ref z_termsAt, .ref a_numbers, .ref a_spread, .int drawn, .int held, .int terms, .int widest, .int halvings, .int foundSigns])), (a_numbers, .inl (cJ, 256, .inr (.inl numbers))), (a_spread, .inl (cI, 256, .inl spread)), (a_p4, .inr (2, [.ref z_told4, .ref z_rows4, .ref a_back4, .ref z_spareBack4, .ref z_left4, .int size4, .int kind4])), (a_back4, .inl (cI, 8, .inl back4))] sz) (fun w1 => w1 = [(a_p0, .inr (0, [.ref z_flipsOf, .ref z_termsAt, .ref a_numbers, .ref a_spread, .int drawn, .int held, .int terms, .int widest, .int halvings, .int foundSigns])), (a_numbers, .inl (cJ, 256, .inr (.inl u.1))), (a_spread, .inl (cI, 256, .inl u.2)), (a_p4, .inr (2, [.ref z_told4, .ref z_rows4, .ref a_back4, .ref z_spareBack4, .ref z_left4, .int size4, .int kind4])), (a_back4, .inl (cI, 8, .inl back4))])) (va_A [(a_p0, .inr (0, [.ref z_flipsOf, .ref z_termsAt, .ref a_numbers, .ref a_spread, .int drawn, .int held, .int terms, .int widest, .int halvings, .int foundSigns])), (a_numbers, .inl (cJ, 256, .inr (.inl numbers))), (a_spread, .inl (cI, 256, .inl spread)), (a_p4, .inr (2, [.ref z_told4, .ref z_rows4, .ref a_back4, .ref z_spareBack4, .ref z_left4, .int size4, .int kind4])), (a_back4, .inl (cI, 8, .inl back4))] sz)) 0 0 (va_A [(a_p0, .inr (0, [.ref z_flipsOf, .ref z_termsAt, .ref a_numbers, .ref a_spread, .int drawn, .int held, .int terms, .int widest, .int halvings, .int foundSigns])), (a_numbers, .inl (cJ, 256, .inr (.inl numbers))), (a_spread, .inl (cI, 256, .inl spread)), (a_p4, .inr (2, [.ref z_told4, .ref z_rows4, .ref a_back4, .ref z_spareBack4, .ref z_left4, .int size4, .int kind4])), (a_back4, .inl (cI, 8, .inl back4))] sz) := by
  refine Met.ofW (cc := prog_2_method_7_code) (maxL := 11) (ret := none) (by decide) rfl ?_
  intro p e s m args below meth c s₁ B hml hv
  obtain ⟨rfl, hsz, hP, hK, hD0, hNW⟩ := hv
  have hx := B.exec
  have hb := B.bytes
  have hr := B.returns
  have hts := atoms_spec (ws := Cond.code y_Pi_bring prog_2_method_7_code 11 none :: T0) B.pre
  have ht0 : ∀ w ∈ T0, w.before ([.ref a_p0, .int p1, .int p2, .int p3, .ref a_p4] : List Value).toArray s = true := fun w h => hts w (List.mem_cons_of_mem _ h)
  have hown : s.vm.findClass "FermionMaps$Picture" = some m.cls := findClass_of_methodNamed B.named
  have hlocks := B.notSynchronized
  subst hsz
  have hD := hD0.self (sz := s.heap.size)
  generalize hAe : va_A [(a_p0, .inr (0, [.ref z_flipsOf, .ref z_termsAt, .ref a_numbers, .ref a_spread, .int drawn, .int held, .int terms, .int widest, .int halvings, .int foundSigns])), (a_numbers, .inl (cJ, 256, .inr (.inl numbers))), (a_spread, .inl (cI, 256, .inl spread)), (a_p4, .inr (2, [.ref z_told4, .ref z_rows4, .ref a_back4, .ref z_spareBack4, .ref z_left4, .int size4, .int kind4])), (a_back4, .inl (cI, 8, .inl back4))] s.heap.size = A at hD ⊢
  have hA : ∀ q : Nat, s.heap.size ≤ q → A q := fun q h => by rw [← hAe]; exact Or.inr h
  have hS : va_S A s.heap s.heap [] := va_S.rf
  have hl := lv_entry ([.ref a_p0, .int p1, .int p2, .int p3, .ref a_p4]) (n := 11) (Nat.le_of_ble_eq_true rfl)
  rw [lg_entry_eq]
  generalize (lg_sl ([.ref a_p0, .int p1, .int p2, .int p3, .ref a_p4]) ++ List.replicate (11 - (lg_sl ([.ref a_p0, .int p1, .int p2, .int p3, .ref a_p4])).length) Slot.unset).toArray = ls at hl ⊢
  have hl : lv_has ls 11 [(0, .ref a_p0), (1, .int p1), (2, .int p2), (3, .int p3), (4, .ref a_p4)] := hl
  refine W.nameQ (fun Q hQ => ?_)
  have B_180 : ∀ (k_135 : Int32 → Int64 → Int32 → (Nat → Int64) → (Nat → Int32) → Option ((Nat → Int64) × (Nat → Int32))) (hk_135 : ∀ (x7 : Int32) (x8 : Int64) (x10 : Int32) (numbers : Nat → Int64) (spread : Nat → Int32) (H : Heap) (locs : List Loc) (ls : Array Slot), k_135 x7 x8 x10 numbers spread = some u → va_P (dC, dI) cls [(a_p0, .inr (0, [.ref z_flipsOf, .ref z_termsAt, .ref a_numbers, .ref a_spread, .int drawn, .int held, .int terms, .int widest, .int halvings, .int foundSigns])), (a_numbers, .inl (cJ, 256, .inr (.inl numbers))), (a_spread, .inl (cI, 256, .inl spread)), (a_p4, .inr (2, [.ref z_told4, .ref z_rows4, .ref a_back4, .ref z_spareBack4, .ref z_left4, .int size4, .int kind4])), (a_back4, .inl (cI, 8, .inl back4))] H → va_D A [(a_p0, .inr (0, [.ref z_flipsOf, .ref z_termsAt, .ref a_numbers, .ref a_spread, .int drawn, .int held, .int terms, .int widest, .int halvings, .int foundSigns])), (a_numbers, .inl (cJ, 256, .inr (.inl numbers))), (a_spread, .inl (cI, 256, .inl spread)), (a_p4, .inr (2, [.ref z_told4, .ref z_rows4, .ref a_back4, .ref z_spareBack4, .ref z_left4, .int size4, .int kind4])), (a_back4, .inl (cI, 8, .inl back4))] → va_S A s.heap H locs → lv_has ls 11 [(0, .ref a_p0), (7, .int x7), (8, .long x8), (10, .int x10)] → W p l e (headSpec (Cond.code y_Pi_bring prog_2_method_7_code 11 none :: T0) rm_Pi_bring).room s m ([.ref a_p0, .int p1, .int p2, .int p3, .ref a_p4] : List Value).toArray below meth c H locs 0 0 Q (F0 m 135 ls [])), ∀ (x7 : Int32) (x8 : Int64) (x10 : Int32) (s1 : Int32) (s2 : Int64) (s3 : Int64) (numbers : Nat → Int64) (spread : Nat → Int32) (H : Heap) (locs : List Loc) (ls : Array Slot), b_Pi_bring_180 F k_135 size4 back4 x7 x8 x10 s1 s2 s3 numbers spread = some u → va_P (dC, dI) cls [(a_p0, .inr (0, [.ref z_flipsOf, .ref z_termsAt, .ref a_numbers, .ref a_spread, .int drawn, .int held, .int terms, .int widest, .int halvings, .int foundSigns])), (a_numbers, .inl (cJ, 256, .inr (.inl numbers))), (a_spread, .inl (cI, 256, .inl spread)), (a_p4, .inr (2, [.ref z_told4, .ref z_rows4, .ref a_back4, .ref z_spareBack4, .ref z_left4, .int size4, .int kind4])), (a_back4, .inl (cI, 8, .inl back4))] H → va_D A [(a_p0, .inr (0, [.ref z_flipsOf, .ref z_termsAt, .ref a_numbers, .ref a_spread, .int drawn, .int held, .int terms, .int widest, .int halvings, .int foundSigns])), (a_numbers, .inl (cJ, 256, .inr (.inl numbers))), (a_spread, .inl (cI, 256, .inl spread)), (a_p4, .inr (2, [.ref z_told4, .ref z_rows4, .ref a_back4, .ref z_spareBack4, .ref z_left4, .int size4, .int kind4])), (a_back4, .inl (cI, 8, .inl back4))] → va_S A s.heap H locs → lv_has ls 11 [(0, .ref a_p0), (7, .int x7), (8, .long x8), (10, .int x10)] → W p l e (headSpec (Cond.code y_Pi_bring prog_2_method_7_code 11 none :: T0) rm_Pi_bring).room s m ([.ref a_p0, .int p1, .int p2, .int p3, .ref a_p4] : List Value).toArray below meth c H locs 0 0 Q (F0 m 180 ls [.long s3, .long s2, .int s1, .ref a_numbers]) := by
    intro k_135 hk_135
    intro x7 x8 x10 s1 s2 s3 numbers spread H locs ls hf hP hD hS hl
    rw [b_Pi_bring_180] at hf
    refine lv_ladd hx hb d_Pi_bring_180 ?_
    refine lv_topl (fun t_17 e_t_17 => ?_)
    replace hf := nm_eq e_t_17 hf
    obtain ⟨hi_18, hf⟩ := ckI_ok hf
    refine va_last hx hb hK hP hD hS 1 1 rfl rfl hi_18 d_Pi_bring_181 (fun H locs hP hD hS => ?_)
    have hP : va_P (dC, dI) cls [(a_p0, .inr (0, [.ref z_flipsOf, .ref z_termsAt, .ref a_numbers, .ref a_spread, .int drawn, .int held, .int terms, .int widest, .int halvings, .int foundSigns])), (a_numbers, .inl (cJ, 256, .inr (.inl (vp_updL numbers s1.toNatClampNeg t_17)))), (a_spread, .inl (cI, 256, .inl spread)), (a_p4, .inr (2, [.ref z_told4, .ref z_rows4, .ref a_back4, .ref z_spareBack4, .ref z_left4, .int size4, .int kind4])), (a_back4, .inl (cI, 8, .inl back4))] H := hP
    have hD : va_D A [(a_p0, .inr (0, [.ref z_flipsOf, .ref z_termsAt, .ref a_numbers, .ref a_spread, .int drawn, .int held, .int terms, .int widest, .int halvings, .int foundSigns])), (a_numbers, .inl (cJ, 256, .inr (.inl (vp_updL numbers s1.toNatClampNeg t_17)))), (a_spread, .inl (cI, 256, .inl spread)), (a_p4, .inr (2, [.ref z_told4, .ref z_rows4, .ref a_back4, .ref z_spareBack4, .ref z_left4, .int size4, .int kind4])), (a_back4, .inl (cI, 8, .inl back4))] := hD
    obtain ⟨x10_19, e_x10_19⟩ : ∃ y : Int32, y = x10 + 1 := ⟨_, rfl⟩
    replace hf := nm_eq e_x10_19 hf
    refine lv_iinc (v := x10_19) (lv' := [(10, .int x10_19), (0, .ref a_p0), (7, .int x7), (8, .long x8)]) hx hb d_Pi_bring_182 hl (k := 3) rfl (by rw [e_x10_19]; rfl) (by decide) rfl (fun ls hl => ?_)
    refine lv_goto (tgt := 135) hx hb d_Pi_bring_185 (by decide) ?_
    exact hk_135 x7 x8 x10_19 (vp_updL numbers s1.toNatClampNeg t_17) spread H locs ls hf hP hD hS (lv_sub hl [1, 2, 3, 0] rfl)
  have B_135 : ∀ (n : Nat), ∀ (x7 : Int32) (x8 : Int64) (x10 : Int32) (numbers : Nat → Int64) (spread : Nat → Int32) (H : Heap) (locs : List Loc) (ls : Array Slot), b_Pi_bring_135 F size4 back4 n x7 x8 x10 numbers spread = some u → va_P (dC, dI) cls [(a_p0, .inr (0, [.ref z_flipsOf, .ref z_termsAt, .ref a_numbers, .ref a_spread, .int drawn, .int held, .int terms, .int widest, .int halvings, .int foundSigns])), (a_numbers, .inl (cJ, 256, .inr (.inl numbers))), (a_spread, .inl (cI, 256, .inl spread)), (a_p4, .inr (2, [.ref z_told4, .ref z_rows4, .ref a_back4, .ref z_spareBack4, .ref z_left4, .int size4, .int kind4])), (a_back4, .inl (cI, 8, .inl back4))] H → va_D A [(a_p0, .inr (0, [.ref z_flipsOf, .ref z_termsAt, .ref a_numbers, .ref a_spread, .int drawn, .int held, .int terms, .int widest, .int halvings, .int foundSigns])), (a_numbers, .inl (cJ, 256, .inr (.inl numbers))), (a_spread, .inl (cI, 256, .inl spread)), (a_p4, .inr (2, [.ref z_told4, .ref z_rows4, .ref a_back4, .ref z_spareBack4, .ref z_left4, .int size4, .int kind4])), (a_back4, .inl (cI, 8, .inl back4))] → va_S A s.heap H locs → lv_has ls 11 [(0, .ref a_p0), (7, .int x7), (8, .long x8), (10, .int x10)] → W p l e (headSpec (Cond.code y_Pi_bring prog_2_method_7_code 11 none :: T0) rm_Pi_bring).room s m ([.ref a_p0, .int p1, .int p2, .int p3, .ref a_p4] : List Value).toArray below meth c H locs 0 0 Q (F0 m 135 ls []) := by
    intro n
    induction n with
    | zero =>
      intro x7 x8 x10 numbers spread H locs ls hf hP hD hS hl
      exact no_fuel hf
    | succ n ih =>
      intro x7 x8 x10 numbers spread H locs ls hf hP hD hS hl
      rw [b_Pi_bring_135] at hf
      refine lv_iload hx hb d_Pi_bring_135 (lv_at hl 3 rfl) ?_
      refine lv_iload hx hb d_Pi_bring_137 (lv_at hl 1 rfl) ?_
      refine lv_icmp_ge (tgt := 188) hx hb d_Pi_bring_139 (by decide) (fun c_11 => ?_) (fun c_11 => ?_)
      · replace hf := if_t c_11 hf
        have hu := Option.some.inj hf
        subst hu
        exact rw_v hQ rfl hP hD hK hS hx hb hr hlocks d_Pi_bring_188
      · replace hf := if_f c_11 hf
        refine lv_aload_n hx hb d_Pi_bring_142 rfl (lv_at hl 0 rfl) ?_
        refine va_get (D := (dC, dI)) (ci := 0) (v := .ref a_numbers) (C := "FermionMaps$Picture") (T := F_Pi) (N := 10) hx hb ht0 i_Pi hown hK hP 0 rfl rfl 2 (by decide) (ht0 _ m_91) (fun _ h9 => h9) rfl d_Pi_bring_143 ?_
        refine lv_aload_n hx hb d_Pi_bring_146 rfl (lv_at hl 0 rfl) ?_
        refine va_get (D := (dC, dI)) (ci := 0) (v := .ref a_spread) (C := "FermionMaps$Picture") (T := F_Pi) (N := 10) hx hb ht0 i_Pi hown hK hP 0 rfl rfl 3 (by decide) (ht0 _ m_92) (fun _ h9 => h9) rfl d_Pi_bring_147 ?_
        refine lv_iload hx hb d_Pi_bring_150 (lv_at hl 3 rfl) ?_
        obtain ⟨hi_12, hf⟩ := ckI_ok hf
        refine va_iald hx hb hK hP 2 0 rfl rfl hi_12 d_Pi_bring_152 ?_
        refine lv_sipush (v := 255) hx hb d_Pi_bring_153 (by decide) ?_
        refine lv_iand hx hb d_Pi_bring_156 ?_
        refine lv_topi (fun t_13 e_t_13 => ?_)
        replace hf := nm_eq e_t_13 hf
        refine lv_dup2_11 hx hb d_Pi_bring_157 rfl rfl ?_
        obtain ⟨hi_14, hf⟩ := ckI_ok hf
        refine va_lald hx hb hK hP 1 1 rfl rfl hi_14 d_Pi_bring_158 ?_
        refine lv_aload_n hx hb d_Pi_bring_159 rfl (lv_at hl 0 rfl) ?_
        refine va_get (D := (dC, dI)) (ci := 0) (v := .ref a_spread) (C := "FermionMaps$Picture") (T := F_Pi) (N := 10) hx hb ht0 i_Pi hown hK hP 0 rfl rfl 3 (by decide) (ht0 _ m_92) (fun _ h9 => h9) rfl d_Pi_bring_160 ?_
        refine lv_iload hx hb d_Pi_bring_163 (lv_at hl 3 rfl) ?_
        obtain ⟨hi_15, hf⟩ := ckI_ok hf
        refine va_iald hx hb hK hP 2 0 rfl rfl hi_15 d_Pi_bring_165 ?_
        refine lv_sipush (v := 256) hx hb d_Pi_bring_166 (by decide) ?_
        refine lv_icmp_lt (tgt := 178) hx hb d_Pi_bring_169 (by decide) (fun c_16 => ?_) (fun c_16 => ?_)
        · replace hf := if_t c_16 hf
          refine lv_lload hx hb d_Pi_bring_178 (lv_at hl 2 rfl) ?_
          exact B_180 (b_Pi_bring_135 F size4 back4 n) ih x7 x8 x10 t_13 (numbers t_13.toNatClampNeg) x8 numbers spread H locs ls hf hP hD hS (lv_sub hl [0, 1, 2, 3] rfl)
        · replace hf := if_f c_16 hf
          refine lv_lload hx hb d_Pi_bring_172 (lv_at hl 2 rfl) ?_
          refine lv_lneg hx hb d_Pi_bring_174 ?_
          refine lv_goto (tgt := 180) hx hb d_Pi_bring_175 (by decide) ?_
          exact B_180 (b_Pi_bring_135 F size4 back4 n) ih x7 x8 x10 t_13 (numbers t_13.toNatClampNeg) (-x8) numbers spread H locs ls hf hP hD hS (lv_sub hl [0, 1, 2, 3] rfl)
  have B_110 : ∀ (k_52 : Int32 → Int32 → Int32 → Int32 → Int32 → (Nat → Int64) → (Nat → Int32) → Option ((Nat → Int64) × (Nat → Int32))) (hk_52 : ∀ (x2 : Int32) (x3 : Int32) (x5 : Int32) (x7 : Int32) (x8 : Int32) (numbers : Nat → Int64) (spread : Nat → Int32) (H : Heap) (locs : List Loc) (ls : Array Slot), k_52 x2 x3 x5 x7 x8 numbers spread = some u → va_P (dC, dI) cls [(a_p0, .inr (0, [.ref z_flipsOf, .ref z_termsAt, .ref a_numbers, .ref a_spread, .int drawn, .int held, .int terms, .int widest, .int halvings, .int foundSigns])), (a_numbers, .inl (cJ, 256, .inr (.inl numbers))), (a_spread, .inl (cI, 256, .inl spread)), (a_p4, .inr (2, [.ref z_told4, .ref z_rows4, .ref a_back4, .ref z_spareBack4, .ref z_left4, .int size4, .int kind4])), (a_back4, .inl (cI, 8, .inl back4))] H → va_D A [(a_p0, .inr (0, [.ref z_flipsOf, .ref z_termsAt, .ref a_numbers, .ref a_spread, .int drawn, .int held, .int terms, .int widest, .int halvings, .int foundSigns])), (a_numbers, .inl (cJ, 256, .inr (.inl numbers))), (a_spread, .inl (cI, 256, .inl spread)), (a_p4, .inr (2, [.ref z_told4, .ref z_rows4, .ref a_back4, .ref z_spareBack4, .ref z_left4, .int size4, .int kind4])), (a_back4, .inl (cI, 8, .inl back4))] → va_S A s.heap H locs → lv_has ls 11 [(0, .ref a_p0), (2, .int x2), (3, .int x3), (4, .ref a_p4), (5, .int x5), (7, .int x7), (8, .int x8)] → W p l e (headSpec (Cond.code y_Pi_bring prog_2_method_7_code 11 none :: T0) rm_Pi_bring).room s m ([.ref a_p0, .int p1, .int p2, .int p3, .ref a_p4] : List Value).toArray below meth c H locs 0 0 Q (F0 m 52 ls [])), ∀ (x2 : Int32) (x3 : Int32) (x5 : Int32) (x7 : Int32) (x8 : Int32) (numbers : Nat → Int64) (spread : Nat → Int32) (H : Heap) (locs : List Loc) (ls : Array Slot), b_Pi_bring_110 F k_52 size4 back4 x2 x3 x5 x7 x8 numbers spread = some u → va_P (dC, dI) cls [(a_p0, .inr (0, [.ref z_flipsOf, .ref z_termsAt, .ref a_numbers, .ref a_spread, .int drawn, .int held, .int terms, .int widest, .int halvings, .int foundSigns])), (a_numbers, .inl (cJ, 256, .inr (.inl numbers))), (a_spread, .inl (cI, 256, .inl spread)), (a_p4, .inr (2, [.ref z_told4, .ref z_rows4, .ref a_back4, .ref z_spareBack4, .ref z_left4, .int size4, .int kind4])), (a_back4, .inl (cI, 8, .inl back4))] H → va_D A [(a_p0, .inr (0, [.ref z_flipsOf, .ref z_termsAt, .ref a_numbers, .ref a_spread, .int drawn, .int held, .int terms, .int widest, .int halvings, .int foundSigns])), (a_numbers, .inl (cJ, 256, .inr (.inl numbers))), (a_spread, .inl (cI, 256, .inl spread)), (a_p4, .inr (2, [.ref z_told4, .ref z_rows4, .ref a_back4, .ref z_spareBack4, .ref z_left4, .int size4, .int kind4])), (a_back4, .inl (cI, 8, .inl back4))] → va_S A s.heap H locs → lv_has ls 11 [(0, .ref a_p0), (2, .int x2), (3, .int x3), (4, .ref a_p4), (5, .int x5), (7, .int x7), (8, .int x8)] → W p l e (headSpec (Cond.code y_Pi_bring prog_2_method_7_code 11 none :: T0) rm_Pi_bring).room s m ([.ref a_p0, .int p1, .int p2, .int p3, .ref a_p4] : List Value).toArray below meth c H locs 0 0 Q (F0 m 110 ls []) := by
    intro k_52 hk_52
    intro x2 x3 x5 x7 x8 numbers spread H locs ls hf hP hD hS hl
    rw [b_Pi_bring_110] at hf
    obtain ⟨x8_22, e_x8_22⟩ : ∃ y : Int32, y = x8 + 1 := ⟨_, rfl⟩
    replace hf := nm_eq e_x8_22 hf
    refine lv_iinc (v := x8_22) (lv' := [(8, .int x8_22), (0, .ref a_p0), (2, .int x2), (3, .int x3), (4, .ref a_p4), (5, .int x5), (7, .int x7)]) hx hb d_Pi_bring_110 hl (k := 6) rfl (by rw [e_x8_22]; rfl) (by decide) rfl (fun ls hl => ?_)
    refine lv_goto (tgt := 52) hx hb d_Pi_bring_113 (by decide) ?_
    exact hk_52 x2 x3 x5 x7 x8_22 numbers spread H locs ls hf hP hD hS (lv_sub hl [1, 2, 3, 4, 5, 6, 0] rfl)
  have B_105 : ∀ (k_52 : Int32 → Int32 → Int32 → Int32 → Int32 → (Nat → Int64) → (Nat → Int32) → Option ((Nat → Int64) × (Nat → Int32))) (hk_52 : ∀ (x2 : Int32) (x3 : Int32) (x5 : Int32) (x7 : Int32) (x8 : Int32) (numbers : Nat → Int64) (spread : Nat → Int32) (H : Heap) (locs : List Loc) (ls : Array Slot), k_52 x2 x3 x5 x7 x8 numbers spread = some u → va_P (dC, dI) cls [(a_p0, .inr (0, [.ref z_flipsOf, .ref z_termsAt, .ref a_numbers, .ref a_spread, .int drawn, .int held, .int terms, .int widest, .int halvings, .int foundSigns])), (a_numbers, .inl (cJ, 256, .inr (.inl numbers))), (a_spread, .inl (cI, 256, .inl spread)), (a_p4, .inr (2, [.ref z_told4, .ref z_rows4, .ref a_back4, .ref z_spareBack4, .ref z_left4, .int size4, .int kind4])), (a_back4, .inl (cI, 8, .inl back4))] H → va_D A [(a_p0, .inr (0, [.ref z_flipsOf, .ref z_termsAt, .ref a_numbers, .ref a_spread, .int drawn, .int held, .int terms, .int widest, .int halvings, .int foundSigns])), (a_numbers, .inl (cJ, 256, .inr (.inl numbers))), (a_spread, .inl (cI, 256, .inl spread)), (a_p4, .inr (2, [.ref z_told4, .ref z_rows4, .ref a_back4, .ref z_spareBack4, .ref z_left4, .int size4, .int kind4])), (a_back4, .inl (cI, 8, .inl back4))] → va_S A s.heap H locs → lv_has ls 11 [(0, .ref a_p0), (2, .int x2), (3, .int x3), (4, .ref a_p4), (5, .int x5), (7, .int x7), (8, .int x8)] → W p l e (headSpec (Cond.code y_Pi_bring prog_2_method_7_code 11 none :: T0) rm_Pi_bring).room s m ([.ref a_p0, .int p1, .int p2, .int p3, .ref a_p4] : List Value).toArray below meth c H locs 0 0 Q (F0 m 52 ls [])), ∀ (x2 : Int32) (x3 : Int32) (x5 : Int32) (x8 : Int32) (s1 : Int32) (s2 : Int32) (numbers : Nat → Int64) (spread : Nat → Int32) (H : Heap) (locs : List Loc) (ls : Array Slot), b_Pi_bring_105 F k_52 size4 back4 x2 x3 x5 x8 s1 s2 numbers spread = some u → va_P (dC, dI) cls [(a_p0, .inr (0, [.ref z_flipsOf, .ref z_termsAt, .ref a_numbers, .ref a_spread, .int drawn, .int held, .int terms, .int widest, .int halvings, .int foundSigns])), (a_numbers, .inl (cJ, 256, .inr (.inl numbers))), (a_spread, .inl (cI, 256, .inl spread)), (a_p4, .inr (2, [.ref z_told4, .ref z_rows4, .ref a_back4, .ref z_spareBack4, .ref z_left4, .int size4, .int kind4])), (a_back4, .inl (cI, 8, .inl back4))] H → va_D A [(a_p0, .inr (0, [.ref z_flipsOf, .ref z_termsAt, .ref a_numbers, .ref a_spread, .int drawn, .int held, .int terms, .int widest, .int halvings, .int foundSigns])), (a_numbers, .inl (cJ, 256, .inr (.inl numbers))), (a_spread, .inl (cI, 256, .inl spread)), (a_p4, .inr (2, [.ref z_told4, .ref z_rows4, .ref a_back4, .ref z_spareBack4, .ref z_left4, .int size4, .int kind4])), (a_back4, .inl (cI, 8, .inl back4))] → va_S A s.heap H locs → lv_has ls 11 [(0, .ref a_p0), (2, .int x2), (3, .int x3), (4, .ref a_p4), (5, .int x5), (8, .int x8)] → W p l e (headSpec (Cond.code y_Pi_bring prog_2_method_7_code 11 none :: T0) rm_Pi_bring).room s m ([.ref a_p0, .int p1, .int p2, .int p3, .ref a_p4] : List Value).toArray below meth c H locs 0 0 Q (F0 m 105 ls [.int s2, .int s1, .ref a_p0]) := by
    intro k_52 hk_52
    intro x2 x3 x5 x8 s1 s2 numbers spread H locs ls hf hP hD hS hl
    rw [b_Pi_bring_105] at hf
    obtain ⟨u_27, h_u_27, hf⟩ := bd hf
    refine wr_i (wr := [(a_numbers, .inl (cJ, 256, .inr (.inl numbers))), (a_p4, .inr (2, [.ref z_told4, .ref z_rows4, .ref a_back4, .ref z_spareBack4, .ref z_left4, .int size4, .int kind4])), (a_back4, .inl (cI, 8, .inl back4))]) (wrV_run (As := [.int s1, .int s2]) (rest := []) ⟨hx, hb, hml, hown, ht0⟩ (c_Pi_doubled l dC dI cI cJ a_p0 a_spread z_flipsOf z_termsAt a_numbers H.size drawn held terms widest halvings foundSigns spread s1 s2 F u_27 h_u_27) (cwV 2 ht0 (gV m_299 m_300 m_301 m_4 m_302) rfl rfl rfl (by decide +kernel) ⟨Nat.le_of_ble_eq_true rfl, Nat.le_of_ble_eq_true rfl⟩) hK hNW hP hD [0, 2] rfl rfl (by decide) (ci := 0) (q0 := 0) rfl rfl rfl hl.1 rfl (Nat.le_of_ble_eq_true rfl) d_Pi_bring_105 ⟨Nat.zero_le _, Nat.zero_le _⟩) hP hD hS hA [0, 2] [1, 3, 4] rfl rfl (by decide) (by decide) (fun w1 H locs hw hP hD hS => ?_)
    obtain rfl := hw
    have hP : va_P (dC, dI) cls [(a_p0, .inr (0, [.ref z_flipsOf, .ref z_termsAt, .ref a_numbers, .ref a_spread, .int drawn, .int held, .int terms, .int widest, .int halvings, .int foundSigns])), (a_numbers, .inl (cJ, 256, .inr (.inl numbers))), (a_spread, .inl (cI, 256, .inl u_27.2)), (a_p4, .inr (2, [.ref z_told4, .ref z_rows4, .ref a_back4, .ref z_spareBack4, .ref z_left4, .int size4, .int kind4])), (a_back4, .inl (cI, 8, .inl back4))] H := hP.sub [3, 0, 4, 1, 2] rfl
    have hD : va_D A [(a_p0, .inr (0, [.ref z_flipsOf, .ref z_termsAt, .ref a_numbers, .ref a_spread, .int drawn, .int held, .int terms, .int widest, .int halvings, .int foundSigns])), (a_numbers, .inl (cJ, 256, .inr (.inl numbers))), (a_spread, .inl (cI, 256, .inl u_27.2)), (a_p4, .inr (2, [.ref z_told4, .ref z_rows4, .ref a_back4, .ref z_spareBack4, .ref z_left4, .int size4, .int kind4])), (a_back4, .inl (cI, 8, .inl back4))] := hD.sub [3, 0, 4, 1, 2] (by decide) rfl
    refine lv_istore (lv' := [(7, .int u_27.1), (0, .ref a_p0), (2, .int x2), (3, .int x3), (4, .ref a_p4), (5, .int x5), (8, .int x8)]) hx hb d_Pi_bring_108 hl (by decide) rfl (fun ls hl => ?_)
    exact B_110 k_52 hk_52 x2 x3 x5 u_27.1 x8 numbers u_27.2 H locs ls hf hP hD hS (lv_sub hl [1, 2, 3, 4, 5, 0, 6] rfl)
  have B_52 : ∀ (n : Nat), ∀ (x2 : Int32) (x3 : Int32) (x5 : Int32) (x7 : Int32) (x8 : Int32) (numbers : Nat → Int64) (spread : Nat → Int32) (H : Heap) (locs : List Loc) (ls : Array Slot), b_Pi_bring_52 F size4 back4 n x2 x3 x5 x7 x8 numbers spread = some u → va_P (dC, dI) cls [(a_p0, .inr (0, [.ref z_flipsOf, .ref z_termsAt, .ref a_numbers, .ref a_spread, .int drawn, .int held, .int terms, .int widest, .int halvings, .int foundSigns])), (a_numbers, .inl (cJ, 256, .inr (.inl numbers))), (a_spread, .inl (cI, 256, .inl spread)), (a_p4, .inr (2, [.ref z_told4, .ref z_rows4, .ref a_back4, .ref z_spareBack4, .ref z_left4, .int size4, .int kind4])), (a_back4, .inl (cI, 8, .inl back4))] H → va_D A [(a_p0, .inr (0, [.ref z_flipsOf, .ref z_termsAt, .ref a_numbers, .ref a_spread, .int drawn, .int held, .int terms, .int widest, .int halvings, .int foundSigns])), (a_numbers, .inl (cJ, 256, .inr (.inl numbers))), (a_spread, .inl (cI, 256, .inl spread)), (a_p4, .inr (2, [.ref z_told4, .ref z_rows4, .ref a_back4, .ref z_spareBack4, .ref z_left4, .int size4, .int kind4])), (a_back4, .inl (cI, 8, .inl back4))] → va_S A s.heap H locs → lv_has ls 11 [(0, .ref a_p0), (2, .int x2), (3, .int x3), (4, .ref a_p4), (5, .int x5), (7, .int x7), (8, .int x8)] → W p l e (headSpec (Cond.code y_Pi_bring prog_2_method_7_code 11 none :: T0) rm_Pi_bring).room s m ([.ref a_p0, .int p1, .int p2, .int p3, .ref a_p4] : List Value).toArray below meth c H locs 0 0 Q (F0 m 52 ls []) := by
    intro n
    induction n with
    | zero =>
      intro x2 x3 x5 x7 x8 numbers spread H locs ls hf hP hD hS hl
      exact no_fuel hf
    | succ n ih =>
      intro x2 x3 x5 x7 x8 numbers spread H locs ls hf hP hD hS hl
      rw [b_Pi_bring_52] at hf
      refine lv_iload hx hb d_Pi_bring_52 (lv_at hl 6 rfl) ?_
      refine lv_aload hx hb d_Pi_bring_54 (lv_at hl 3 rfl) ?_
      refine va_get (D := (dC, dI)) (ci := 2) (v := .int size4) (C := "FermionMaps$Wiring") (T := F_Wi) (N := 7) hx hb ht0 i_Wi hown hK hP 3 rfl rfl 5 (by decide) (ht0 _ m_64) (fun _ h9 => h9) rfl d_Pi_bring_56 ?_
      refine lv_icmp_ge (tgt := 116) hx hb d_Pi_bring_59 (by decide) (fun c_8 => ?_) (fun c_8 => ?_)
      · replace hf := if_t c_8 hf
        refine lv_iload_n hx hb d_Pi_bring_116 rfl (lv_at hl 2 rfl) ?_
        refine lv_i2l (v := x3.toInt64) hx hb d_Pi_bring_117 rfl ?_
        refine lv_aload hx hb d_Pi_bring_118 (lv_at hl 3 rfl) ?_
        refine va_get (D := (dC, dI)) (ci := 2) (v := .int size4) (C := "FermionMaps$Wiring") (T := F_Wi) (N := 7) hx hb ht0 i_Wi hown hK hP 3 rfl rfl 5 (by decide) (ht0 _ m_64) (fun _ h9 => h9) rfl d_Pi_bring_120 ?_
        refine lv_iload hx hb d_Pi_bring_123 (lv_at hl 4 rfl) ?_
        obtain ⟨u_9, h_u_9, hf⟩ := bd hf
        refine rd_i (rdS_run (As := [.int x5]) (rest := [.int size4, .long (x3.toInt64)]) ⟨hx, hb, hml, hown, ht0⟩ (c_In_bitCount l dC dI cI cJ x5 F u_9 h_u_9) (va_cwS 1 ht0 (gS m_303 m_203 m_7 m_204) rfl rfl rfl (by decide +kernel) ⟨Nat.le_of_ble_eq_true rfl, Nat.le_of_ble_eq_true rfl⟩) hK hNW hP [] rfl  rfl hl.1 rfl (Nat.le_of_ble_eq_true rfl) d_Pi_bring_125 ⟨Nat.zero_le _, Nat.zero_le _⟩) ?_
        refine lv_isub hx hb d_Pi_bring_128 ?_
        refine lv_lshl (v := ((x3.toInt64) <<< ((size4 - u_9).toInt64 &&& 63))) hx hb d_Pi_bring_129 rfl ?_
        refine lv_topl (fun x8_10 e_x8_10 => ?_)
        replace hf := nm_eq e_x8_10 hf
        refine lv_lstore (lv' := [(8, .long x8_10), (0, .ref a_p0), (2, .int x2), (3, .int x3), (4, .ref a_p4), (5, .int x5), (7, .int x7)]) hx hb d_Pi_bring_130 hl (by decide) rfl (fun ls hl => ?_)
        refine lv_iconst (v := 0) hx hb d_Pi_bring_132 (by decide) ?_
        refine lv_istore (lv' := [(10, .int 0), (8, .long x8_10), (0, .ref a_p0), (2, .int x2), (3, .int x3), (4, .ref a_p4), (5, .int x5), (7, .int x7)]) hx hb d_Pi_bring_133 hl (by decide) rfl (fun ls hl => ?_)
        exact B_135 F x7 x8_10 0 numbers spread H locs ls hf hP hD hS (lv_sub hl [2, 7, 1, 0] rfl)
      · replace hf := if_f c_8 hf
        refine lv_iload hx hb d_Pi_bring_62 (lv_at hl 4 rfl) ?_
        refine lv_iload hx hb d_Pi_bring_64 (lv_at hl 6 rfl) ?_
        obtain ⟨u_20, h_u_20, hf⟩ := bd hf
        refine rd_i (rdSN_run (As := [.int x5, .int x8]) (rest := []) ⟨hx, hb, hml, hown, ht0⟩ (c_FM_has l dC dI cI cJ x5 x8 F u_20 h_u_20) ⟨va_cnB (host := "FermionMaps") 2 ht0 (gC m_239) rfl rfl rfl (nw_Pi_112 hNW) (ht0 _ m_1) (by decide +kernel) ⟨Nat.le_of_ble_eq_true rfl, Nat.le_of_ble_eq_true rfl⟩, ht0 _ m_238, trivial⟩ hK hNW hP [] rfl  rfl hl.1 rfl (Nat.le_of_ble_eq_true rfl) d_Pi_bring_66 ⟨Nat.zero_le _, Nat.zero_le _⟩) ?_
        refine lv_if_eq (tgt := 110) hx hb d_Pi_bring_69 (by decide) (fun c_21 => ?_) (fun c_21 => ?_)
        · replace hf := if_t c_21 hf
          exact B_110 (b_Pi_bring_52 F size4 back4 n) ih x2 x3 x5 x7 x8 numbers spread H locs ls hf hP hD hS (lv_sub hl [0, 1, 2, 3, 4, 5, 6] rfl)
        · replace hf := if_f c_21 hf
          refine lv_aload hx hb d_Pi_bring_72 (lv_at hl 3 rfl) ?_
          refine va_get (D := (dC, dI)) (ci := 2) (v := .ref a_back4) (C := "FermionMaps$Wiring") (T := F_Wi) (N := 7) hx hb ht0 i_Wi hown hK hP 3 rfl rfl 2 (by decide) (ht0 _ m_59) (fun _ h9 => h9) rfl d_Pi_bring_74 ?_
          refine lv_iload hx hb d_Pi_bring_77 (lv_at hl 6 rfl) ?_
          obtain ⟨hi_23, hf⟩ := ckI_ok hf
          refine va_iald hx hb hK hP 4 0 rfl rfl hi_23 d_Pi_bring_79 ?_
          refine lv_topi (fun x9_24 e_x9_24 => ?_)
          replace hf := nm_eq e_x9_24 hf
          refine lv_istore (lv' := [(9, .int x9_24), (0, .ref a_p0), (2, .int x2), (3, .int x3), (4, .ref a_p4), (5, .int x5), (7, .int x7), (8, .int x8)]) hx hb d_Pi_bring_80 hl (by decide) rfl (fun ls hl => ?_)
          refine lv_aload_n hx hb d_Pi_bring_82 rfl (lv_at hl 1 rfl) ?_
          refine lv_iload hx hb d_Pi_bring_83 (lv_at hl 6 rfl) ?_
          refine lv_iload_n hx hb d_Pi_bring_85 rfl (lv_at hl 2 rfl) ?_
          refine lv_iload hx hb d_Pi_bring_86 (lv_at hl 7 rfl) ?_
          obtain ⟨u_25, h_u_25, hf⟩ := bd hf
          refine rd_i (rdSN_run (As := [.int x2, .int x8]) (rest := [.int x7, .ref a_p0]) ⟨hx, hb, hml, hown, ht0⟩ (c_FM_has l dC dI cI cJ x2 x8 F u_25 h_u_25) ⟨va_cnB (host := "FermionMaps") 2 ht0 (gC m_239) rfl rfl rfl (nw_Pi_112 hNW) (ht0 _ m_1) (by decide +kernel) ⟨Nat.le_of_ble_eq_true rfl, Nat.le_of_ble_eq_true rfl⟩, ht0 _ m_238, trivial⟩ hK hNW hP [] rfl  rfl hl.1 rfl (Nat.le_of_ble_eq_true rfl) d_Pi_bring_88 ⟨Nat.zero_le _, Nat.zero_le _⟩) ?_
          refine lv_if_eq (tgt := 103) hx hb d_Pi_bring_91 (by decide) (fun c_26 => ?_) (fun c_26 => ?_)
          · replace hf := if_t c_26 hf
            refine lv_iload hx hb d_Pi_bring_103 (lv_at hl 0 rfl) ?_
            exact B_105 (b_Pi_bring_52 F size4 back4 n) ih x2 x3 x5 x8 x7 x9_24 numbers spread H locs ls hf hP hD hS (lv_sub hl [1, 2, 3, 4, 5, 7] rfl)
          · replace hf := if_f c_26 hf
            refine lv_iload hx hb d_Pi_bring_94 (lv_at hl 0 rfl) ?_
            refine lv_sipush (v := 256) hx hb d_Pi_bring_96 (by decide) ?_
            refine lv_iadd hx hb d_Pi_bring_99 ?_
            refine lv_goto (tgt := 105) hx hb d_Pi_bring_100 (by decide) ?_
            exact B_105 (b_Pi_bring_52 F size4 back4 n) ih x2 x3 x5 x8 x7 (x9_24 + 256) numbers spread H locs ls hf hP hD hS (lv_sub hl [1, 2, 3, 4, 5, 7] rfl)
  have B_45 : ∀ (x2 : Int32) (x3 : Int32) (x5 : Int32) (s1 : Int32) (s2 : Int32) (numbers : Nat → Int64) (spread : Nat → Int32) (H : Heap) (locs : List Loc) (ls : Array Slot), b_Pi_bring_45 F size4 back4 x2 x3 x5 s1 s2 numbers spread = some u → va_P (dC, dI) cls [(a_p0, .inr (0, [.ref z_flipsOf, .ref z_termsAt, .ref a_numbers, .ref a_spread, .int drawn, .int held, .int terms, .int widest, .int halvings, .int foundSigns])), (a_numbers, .inl (cJ, 256, .inr (.inl numbers))), (a_spread, .inl (cI, 256, .inl spread)), (a_p4, .inr (2, [.ref z_told4, .ref z_rows4, .ref a_back4, .ref z_spareBack4, .ref z_left4, .int size4, .int kind4])), (a_back4, .inl (cI, 8, .inl back4))] H → va_D A [(a_p0, .inr (0, [.ref z_flipsOf, .ref z_termsAt, .ref a_numbers, .ref a_spread, .int drawn, .int held, .int terms, .int widest, .int halvings, .int foundSigns])), (a_numbers, .inl (cJ, 256, .inr (.inl numbers))), (a_spread, .inl (cI, 256, .inl spread)), (a_p4, .inr (2, [.ref z_told4, .ref z_rows4, .ref a_back4, .ref z_spareBack4, .ref z_left4, .int size4, .int kind4])), (a_back4, .inl (cI, 8, .inl back4))] → va_S A s.heap H locs → lv_has ls 11 [(0, .ref a_p0), (2, .int x2), (3, .int x3), (4, .ref a_p4), (5, .int x5)] → W p l e (headSpec (Cond.code y_Pi_bring prog_2_method_7_code 11 none :: T0) rm_Pi_bring).room s m ([.ref a_p0, .int p1, .int p2, .int p3, .ref a_p4] : List Value).toArray below meth c H locs 0 0 Q (F0 m 45 ls [.int s2, .int s1, .ref a_spread]) := by
    intro x2 x3 x5 s1 s2 numbers spread H locs ls hf hP hD hS hl
    rw [b_Pi_bring_45] at hf
    obtain ⟨hi_7, hf⟩ := ckI_ok hf
    refine va_iast hx hb hK hP hD hS 2 0 rfl rfl hi_7 d_Pi_bring_45 (fun H locs hP hD hS => ?_)
    have hP : va_P (dC, dI) cls [(a_p0, .inr (0, [.ref z_flipsOf, .ref z_termsAt, .ref a_numbers, .ref a_spread, .int drawn, .int held, .int terms, .int widest, .int halvings, .int foundSigns])), (a_numbers, .inl (cJ, 256, .inr (.inl numbers))), (a_spread, .inl (cI, 256, .inl (upd spread s1.toNatClampNeg s2))), (a_p4, .inr (2, [.ref z_told4, .ref z_rows4, .ref a_back4, .ref z_spareBack4, .ref z_left4, .int size4, .int kind4])), (a_back4, .inl (cI, 8, .inl back4))] H := hP
    have hD : va_D A [(a_p0, .inr (0, [.ref z_flipsOf, .ref z_termsAt, .ref a_numbers, .ref a_spread, .int drawn, .int held, .int terms, .int widest, .int halvings, .int foundSigns])), (a_numbers, .inl (cJ, 256, .inr (.inl numbers))), (a_spread, .inl (cI, 256, .inl (upd spread s1.toNatClampNeg s2))), (a_p4, .inr (2, [.ref z_told4, .ref z_rows4, .ref a_back4, .ref z_spareBack4, .ref z_left4, .int size4, .int kind4])), (a_back4, .inl (cI, 8, .inl back4))] := hD
    refine lv_iconst (v := 1) hx hb d_Pi_bring_46 (by decide) ?_
    refine lv_istore (lv' := [(7, .int 1), (0, .ref a_p0), (2, .int x2), (3, .int x3), (4, .ref a_p4), (5, .int x5)]) hx hb d_Pi_bring_47 hl (by decide) rfl (fun ls hl => ?_)
    refine lv_iconst (v := 0) hx hb d_Pi_bring_49 (by decide) ?_
    refine lv_istore (lv' := [(8, .int 0), (7, .int 1), (0, .ref a_p0), (2, .int x2), (3, .int x3), (4, .ref a_p4), (5, .int x5)]) hx hb d_Pi_bring_50 hl (by decide) rfl (fun ls hl => ?_)
    exact B_52 F x2 x3 x5 1 0 numbers (upd spread s1.toNatClampNeg s2) H locs ls hf hP hD hS (lv_sub hl [2, 3, 4, 5, 6, 1, 0] rfl)
  rw [f_Pi_bring] at hf
  refine lv_iload_n hx hb d_Pi_bring_0 rfl (lv_at hl 1 rfl) ?_
  refine lv_iload_n hx hb d_Pi_bring_1 rfl (lv_at hl 2 rfl) ?_
  refine lv_ior hx hb d_Pi_bring_2 ?_
  refine lv_topi (fun x5_1 e_x5_1 => ?_)
  replace hf := nm_eq e_x5_1 hf
  refine lv_istore (lv' := [(5, .int x5_1), (0, .ref a_p0), (1, .int p1), (2, .int p2), (3, .int p3), (4, .ref a_p4)]) hx hb d_Pi_bring_3 hl (by decide) rfl (fun ls hl => ?_)
  refine lv_aload hx hb d_Pi_bring_5 (lv_at hl 5 rfl) ?_
  refine lv_iload_n hx hb d_Pi_bring_7 rfl (lv_at hl 2 rfl) ?_
  obtain ⟨u_2, h_u_2, hf⟩ := bd hf
  refine rd_i (rdSN_run (As := [.int p1]) (rest := [.ref a_p4]) ⟨hx, hb, hml, hown, ht0⟩ (c_FM_oddBelow l dC dI cI cJ p1 F u_2 h_u_2) ⟨va_cnB (host := "FermionMaps") 1 ht0 (gC m_288) rfl rfl rfl (nw_Pi_102 hNW) (ht0 _ m_1) (by decide +kernel) ⟨Nat.le_of_ble_eq_true rfl, Nat.le_of_ble_eq_true rfl⟩, ht0 _ m_287, trivial⟩ hK hNW hP [] rfl  rfl hl.1 rfl (Nat.le_of_ble_eq_true rfl) d_Pi_bring_8 ⟨Nat.zero_le _, Nat.zero_le _⟩) ?_
  refine lv_iload_n hx hb d_Pi_bring_11 rfl (lv_at hl 3 rfl) ?_
  obtain ⟨u_3, h_u_3, hf⟩ := bd hf
  refine rd_i (rdSN_run (As := [.int p2]) (rest := [.int u_2, .ref a_p4]) ⟨hx, hb, hml, hown, ht0⟩ (c_FM_oddBelow l dC dI cI cJ p2 F u_3 h_u_3) ⟨va_cnB (host := "FermionMaps") 1 ht0 (gC m_288) rfl rfl rfl (nw_Pi_102 hNW) (ht0 _ m_1) (by decide +kernel) ⟨Nat.le_of_ble_eq_true rfl, Nat.le_of_ble_eq_true rfl⟩, ht0 _ m_287, trivial⟩ hK hNW hP [] rfl  rfl hl.1 rfl (Nat.le_of_ble_eq_true rfl) d_Pi_bring_12 ⟨Nat.zero_le _, Nat.zero_le _⟩) ?_
  refine lv_ixor hx hb d_Pi_bring_15 ?_
  obtain ⟨u_4, h_u_4, hf⟩ := bd hf
  refine rd_i (rdV_run (As := [.int (u_2 ^^^ u_3)]) (rest := []) ⟨hx, hb, hml, hown, ht0⟩ (c_Wi_signsOf l dC dI cI cJ a_p4 a_back4 z_told4 z_rows4 z_spareBack4 z_left4 size4 kind4 back4 (u_2 ^^^ u_3) F u_4 h_u_4) (cwV 1 ht0 (gV m_289 m_290 m_291 m_3 m_292) rfl rfl rfl (by decide +kernel) ⟨Nat.le_of_ble_eq_true rfl, Nat.le_of_ble_eq_true rfl⟩) hK hNW hP [3, 4] rfl (ci := 2) (q0 := 3) rfl rfl rfl hl.1 rfl (Nat.le_of_ble_eq_true rfl) d_Pi_bring_16 ⟨Nat.zero_le _, Nat.zero_le _⟩) ?_
  refine lv_istore (lv' := [(6, .int u_4), (5, .int x5_1), (0, .ref a_p0), (1, .int p1), (2, .int p2), (3, .int p3), (4, .ref a_p4)]) hx hb d_Pi_bring_19 hl (by decide) rfl (fun ls hl => ?_)
  refine lv_aload_n hx hb d_Pi_bring_21 rfl (lv_at hl 2 rfl) ?_
  refine va_get (D := (dC, dI)) (ci := 0) (v := .ref a_spread) (C := "FermionMaps$Picture") (T := F_Pi) (N := 10) hx hb ht0 i_Pi hown hK hP 0 rfl rfl 3 (by decide) (ht0 _ m_92) (fun _ h9 => h9) rfl d_Pi_bring_22 ?_
  refine lv_iconst (v := 0) hx hb d_Pi_bring_25 (by decide) ?_
  refine lv_iload_n hx hb d_Pi_bring_26 rfl (lv_at hl 3 rfl) ?_
  refine lv_iload_n hx hb d_Pi_bring_27 rfl (lv_at hl 4 rfl) ?_
  obtain ⟨u_5, h_u_5, hf⟩ := bd hf
  refine rd_i (rdSN_run (As := [.int p1, .int p2]) (rest := [.int 0, .ref a_spread]) ⟨hx, hb, hml, hown, ht0⟩ (c_FM_turnsAlways l dC dI cI cJ p1 p2 F u_5 h_u_5) ⟨va_cnB (host := "FermionMaps") 2 ht0 (gC m_295) rfl rfl rfl (nw_Pi_108 hNW) (ht0 _ m_1) (by decide +kernel) ⟨Nat.le_of_ble_eq_true rfl, Nat.le_of_ble_eq_true rfl⟩, ht0 _ m_294, trivial⟩ hK hNW hP [] rfl  rfl hl.1 rfl (Nat.le_of_ble_eq_true rfl) d_Pi_bring_28 ⟨Nat.zero_le _, Nat.zero_le _⟩) ?_
  refine lv_if_eq (tgt := 43) hx hb d_Pi_bring_31 (by decide) (fun c_6 => ?_) (fun c_6 => ?_)
  · replace hf := if_t c_6 hf
    refine lv_iload hx hb d_Pi_bring_43 (lv_at hl 0 rfl) ?_
    exact B_45 p2 p3 x5_1 0 u_4 numbers spread s.heap [] ls hf hP hD hS (lv_sub hl [2, 4, 5, 6, 1] rfl)
  · replace hf := if_f c_6 hf
    refine lv_iload hx hb d_Pi_bring_34 (lv_at hl 0 rfl) ?_
    refine lv_sipush (v := 256) hx hb d_Pi_bring_36 (by decide) ?_
    refine lv_iadd hx hb d_Pi_bring_39 ?_
    refine lv_goto (tgt := 45) hx hb d_Pi_bring_40 (by decide) ?_
    exact B_45 p2 p3 x5_1 0 (u_4 + 256) numbers spread s.heap [] ls hf hP hD hS (lv_sub hl [2, 4, 5, 6, 1] rfl)

/-! FermionMaps$Picture.hold(ILFermionMaps$Sum;LFermionMaps$Wiring;)V -/
def b_Pi_hold_79 (F : Nat) (k_35 : Int32 → Int32 → Int32 → (Nat → Int64) → (Nat → Int32) → Option (Int32 × (Nat → Int64) × (Nat → Int32))) (flipsOf : Nat → Int32) (count2 : Int32) (keys2 : Nat → Int32) (numbers2 : Nat → Int32) (size3 : Int32) (back3 : Nat → Int32) (x1 : Int32) (x5 : Int32) (held : Int32) (numbers : Nat → Int64) (spread : Nat → Int32) : Option (Int32 × (Nat → Int64) × (Nat → Int32)) :=
  nm (x5 + 1 : Int32) fun x5_6 =>
  k_35 x1 x5_6 held numbers spread
def b_Pi_hold_35 (F : Nat) (flipsOf : Nat → Int32) (count2 : Int32) (keys2 : Nat → Int32) (numbers2 : Nat → Int32) (size3 : Int32) (back3 : Nat → Int32) : Nat → Int32 → Int32 → Int32 → (Nat → Int64) → (Nat → Int32) → Option (Int32 × (Nat → Int64) × (Nat → Int32))
  | 0, _, _, _, _, _ => none
  | n + 1, x1, x5, held, numbers, spread =>
    if count2 ≤ x5 then
      some (x1, numbers, spread)
    else
      ckI x5 60 <|
      if (flipsOf x5.toNatClampNeg) = x1 then
        (f_Su_upsOf F keys2 x5).bind fun u_7 =>
        (f_Su_downsOf F keys2 x5).bind fun u_8 =>
        ckI x5 60 <|
        (f_Pi_bring F numbers spread size3 back3 u_7 u_8 (numbers2 x5.toNatClampNeg)).bind fun u_10 =>
        b_Pi_hold_79 F (b_Pi_hold_35 F flipsOf count2 keys2 numbers2 size3 back3 n) flipsOf count2 keys2 numbers2 size3 back3 x1 x5 held u_10.1 u_10.2
      else
        b_Pi_hold_79 F (b_Pi_hold_35 F flipsOf count2 keys2 numbers2 size3 back3 n) flipsOf count2 keys2 numbers2 size3 back3 x1 x5 held numbers spread
def b_Pi_hold_11 (F : Nat) (flipsOf : Nat → Int32) (count2 : Int32) (keys2 : Nat → Int32) (numbers2 : Nat → Int32) (size3 : Int32) (back3 : Nat → Int32) : Nat → Int32 → Int32 → Int32 → Int32 → (Nat → Int64) → (Nat → Int32) → Option (Int32 × (Nat → Int64) × (Nat → Int32))
  | 0, _, _, _, _, _, _ => none
  | n + 1, x1, x4, x5, held, numbers, spread =>
    if x4 ≤ x5 then
      b_Pi_hold_35 F flipsOf count2 keys2 numbers2 size3 back3 F x1 0 held numbers spread
    else
      ckI x5 256 <|
      nm (x5 + 1 : Int32) fun x5_12 =>
      b_Pi_hold_11 F flipsOf count2 keys2 numbers2 size3 back3 n x1 x4 x5_12 held (vp_updL numbers x5.toNatClampNeg 0) spread
def f_Pi_hold (F : Nat) (held : Int32) (flipsOf : Nat → Int32) (numbers : Nat → Int64) (spread : Nat → Int32) (count2 : Int32) (keys2 : Nat → Int32) (numbers2 : Nat → Int32) (size3 : Int32) (back3 : Nat → Int32) (p1 : Int32) : Option (Int32 × (Nat → Int64) × (Nat → Int32)) :=
  nm (((1 : Int32) <<< (size3 &&& 31)) : Int32) fun x4_1 =>
  b_Pi_hold_11 F flipsOf count2 keys2 numbers2 size3 back3 F p1 x4_1 0 held numbers spread
abbrev rm_Pi_hold : Room := { frames := 4, cells := 0, slots := 0, locals := 91 }
set_option maxHeartbeats 4000000 in
set_option maxRecDepth 100000 in
theorem c_Pi_hold (l : Launch) (dC : Nat → ClassId) (dI : Nat → Nat → Nat) (cI cJ : ClassId) (a_p0 a_flipsOf a_numbers a_spread a_p2 a_keys2 a_numbers2 a_p3 a_back3 z_termsAt z_spareKeys2 z_spareNumbers2 z_told3 z_rows3 z_spareBack3 z_left3 : Nat) (sz : Nat) (drawn : Int32) (held : Int32) (terms : Int32) (widest : Int32) (halvings : Int32) (foundSigns : Int32) (flipsOf : Nat → Int32) (numbers : Nat → Int64) (spread : Nat → Int32) (count2 : Int32) (keys2 : Nat → Int32) (numbers2 : Nat → Int32) (size3 : Int32) (kind3 : Int32) (back3 : Nat → Int32) (p1 : Int32) (F : Nat) (u : Int32 × (Nat → Int64) × (Nat → Int32)) (hf : f_Pi_hold F held flipsOf numbers spread count2 keys2 numbers2 size3 back3 p1 = some u) : Met l y_Pi_hold (Cond.code y_Pi_hold prog_2_method_4_code 6 none :: T0) rm_Pi_hold (va_Pc [.ref a_p0, .int p1, .ref a_p2, .ref a_p3] (Ww (dC, dI) [(a_p0, .inr (0, [.ref a_flipsOf, .ref z_termsAt, .ref a_numbers, .ref a_spread, .int drawn, .int held, .int terms, .int widest, .int halvings, .int foundSigns])), (a_flipsOf, .inl (cI, 60, .inl flipsOf)), (a_numbers, .inl (cJ, 256, .inr (.inl numbers))), (a_spread, .inl (cI, 256, .inl spread)), (a_p2, .inr (1, [.ref a_keys2, .ref a_numbers2, .ref z_spareKeys2, .ref z_spareNumbers2, .int count2])), (a_keys2, .inl (cI, 60, .inl keys2)), (a_numbers2, .inl (cI, 60, .inl numbers2)), (a_p3, .inr (2, [.ref z_told3, .ref z_rows3, .ref a_back3, .ref z_spareBack3, .ref z_left3, .int size3, .int kind3])), (a_back3, .inl (cI, 8, .inl back3))] [(cI, .int), (cJ, .long)] sz)) (va_Qv (fun _ : Unit => True) (Bw (dC, dI) [(cI, .int), (cJ, .long)] (va_A [(a_p0, .inr (0, [.ref a_flipsOf, .ref z_termsAt, .ref a_numbers, .ref a_spread, .int drawn, .int held, .int terms, .int widest, .int halvings, .int foundSigns])), (a_flipsOf, .inl (cI, 60, .inl flipsOf)), (a_numbers, .inl (cJ, 256, .inr (.inl numbers))), (a_spread, .inl (cI, 256, .inl spread)), (a_p2, .inr (1, [.ref a_keys2, .ref a_numbers2, .ref z_spareKeys2, .ref z_spareNumbers2, .int count2])), (a_keys2, .inl (cI, 60, .inl keys2)), (a_numbers2, .inl (cI, 60, .inl numbers2)), (a_p3, .inr (2, [.ref z_told3, .ref z_rows3, .ref a_back3, .ref z_spareBack3, .ref z_left3, .int size3, .int kind3])), (a_back3, .inl (cI, 8, .inl back3))] sz) (fun w1 => w1 = [(a_p0, .inr (0, [.ref a_flipsOf, .ref z_termsAt, .ref a_numbers, .ref a_spread, .int drawn, .int u.1, .int terms, .int widest, .int halvings, .int foundSigns])), (a_flipsOf, .inl (cI, 60, .inl flipsOf)), (a_numbers, .inl (cJ, 256, .inr (.inl u.2.1))), (a_spread, .inl (cI, 256, .inl u.2.2)), (a_p2, .inr (1, [.ref a_keys2, .ref a_numbers2, .ref z_spareKeys2, .ref z_spareNumbers2, .int count2])), (a_keys2, .inl (cI, 60, .inl keys2)), (a_numbers2, .inl (cI, 60, .inl numbers2)), (a_p3, .inr (2, [.ref z_told3, .ref z_rows3, .ref a_back3, .ref z_spareBack3, .ref z_left3, .int size3, .int kind3])), (a_back3, .inl (cI, 8, .inl back3))])) (va_A [(a_p0, .inr (0, [.ref a_flipsOf, .ref z_termsAt, .ref a_numbers, .ref a_spread, .int drawn, .int held, .int terms, .int widest, .int halvings, .int foundSigns])), (a_flipsOf, .inl (cI, 60, .inl flipsOf)), (a_numbers, .inl (cJ, 256, .inr (.inl numbers))), (a_spread, .inl (cI, 256, .inl spread)), (a_p2, .inr (1, [.ref a_keys2, .ref a_numbers2, .ref z_spareKeys2, .ref z_spareNumbers2, .int count2])), (a_keys2, .inl (cI, 60, .inl keys2)), (a_numbers2, .inl (cI, 60, .inl numbers2)), (a_p3, .inr (2, [.ref z_told3, .ref z_rows3, .ref a_back3, .ref z_spareBack3, .ref z_left3, .int size3, .int kind3])), (a_back3, .inl (cI, 8, .inl back3))] sz)) 0 0 (va_A [(a_p0, .inr (0, [.ref a_flipsOf, .ref z_termsAt, .ref a_numbers, .ref a_spread, .int drawn, .int held, .int terms, .int widest, .int halvings, .int foundSigns])), (a_flipsOf, .inl (cI, 60, .inl flipsOf)), (a_numbers, .inl (cJ, 256, .inr (.inl numbers))), (a_spread, .inl (cI, 256, .inl spread)), (a_p2, .inr (1, [.ref a_keys2, .ref a_numbers2, .ref z_spareKeys2, .ref z_spareNumbers2, .int count2])), (a_keys2, .inl (cI, 60, .inl keys2)), (a_numbers2, .inl (cI, 60, .inl numbers2)), (a_p3, .inr (2, [.ref z_told3, .ref z_rows3, .ref a_back3, .ref z_spareBack3, .ref z_left3, .int size3, .int kind3])), (a_back3, .inl (cI, 8, .inl back3))] sz) := by
  refine Met.ofW (cc := prog_2_method_4_code) (maxL := 6) (ret := none) (by decide) rfl ?_
  intro p e s m args below meth c s₁ B hml hv
  obtain ⟨rfl, hsz, hP, hK, hD0, hNW⟩ := hv
  have hx := B.exec
  have hb := B.bytes
  have hr := B.returns
  have hts := atoms_spec (ws := Cond.code y_Pi_hold prog_2_method_4_code 6 none :: T0) B.pre
  have ht0 : ∀ w ∈ T0, w.before ([.ref a_p0, .int p1, .ref a_p2, .ref a_p3] : List Value).toArray s = true := fun w h => hts w (List.mem_cons_of_mem _ h)
  have hown : s.vm.findClass "FermionMaps$Picture" = some m.cls := findClass_of_methodNamed B.named
  have hlocks := B.notSynchronized
  subst hsz
  have hD := hD0.self (sz := s.heap.size)
  generalize hAe : va_A [(a_p0, .inr (0, [.ref a_flipsOf, .ref z_termsAt, .ref a_numbers, .ref a_spread, .int drawn, .int held, .int terms, .int widest, .int halvings, .int foundSigns])), (a_flipsOf, .inl (cI, 60, .inl flipsOf)), (a_numbers, .inl (cJ, 256, .inr (.inl numbers))), (a_spread, .inl (cI, 256, .inl spread)), (a_p2, .inr (1, [.ref a_keys2, .ref a_numbers2, .ref z_spareKeys2, .ref z_spareNumbers2, .int count2])), (a_keys2, .inl (cI, 60, .inl keys2)), (a_numbers2, .inl (cI, 60, .inl numbers2)), (a_p3, .inr (2, [.ref z_told3, .ref z_rows3, .ref a_back3, .ref z_spareBack3, .ref z_left3, .int size3, .int kind3])), (a_back3, .inl (cI, 8, .inl back3))] s.heap.size = A at hD ⊢
  have hA : ∀ q : Nat, s.heap.size ≤ q → A q := fun q h => by rw [← hAe]; exact Or.inr h
  have hS : va_S A s.heap s.heap [] := va_S.rf
  have hl := lv_entry ([.ref a_p0, .int p1, .ref a_p2, .ref a_p3]) (n := 6) (Nat.le_of_ble_eq_true rfl)
  rw [lg_entry_eq]
  generalize (lg_sl ([.ref a_p0, .int p1, .ref a_p2, .ref a_p3]) ++ List.replicate (6 - (lg_sl ([.ref a_p0, .int p1, .ref a_p2, .ref a_p3])).length) Slot.unset).toArray = ls at hl ⊢
  have hl : lv_has ls 6 [(0, .ref a_p0), (1, .int p1), (2, .ref a_p2), (3, .ref a_p3)] := hl
  refine W.nameQ (fun Q hQ => ?_)
  have B_79 : ∀ (k_35 : Int32 → Int32 → Int32 → (Nat → Int64) → (Nat → Int32) → Option (Int32 × (Nat → Int64) × (Nat → Int32))) (hk_35 : ∀ (x1 : Int32) (x5 : Int32) (held : Int32) (numbers : Nat → Int64) (spread : Nat → Int32) (H : Heap) (locs : List Loc) (ls : Array Slot), k_35 x1 x5 held numbers spread = some u → va_P (dC, dI) cls [(a_p0, .inr (0, [.ref a_flipsOf, .ref z_termsAt, .ref a_numbers, .ref a_spread, .int drawn, .int held, .int terms, .int widest, .int halvings, .int foundSigns])), (a_flipsOf, .inl (cI, 60, .inl flipsOf)), (a_numbers, .inl (cJ, 256, .inr (.inl numbers))), (a_spread, .inl (cI, 256, .inl spread)), (a_p2, .inr (1, [.ref a_keys2, .ref a_numbers2, .ref z_spareKeys2, .ref z_spareNumbers2, .int count2])), (a_keys2, .inl (cI, 60, .inl keys2)), (a_numbers2, .inl (cI, 60, .inl numbers2)), (a_p3, .inr (2, [.ref z_told3, .ref z_rows3, .ref a_back3, .ref z_spareBack3, .ref z_left3, .int size3, .int kind3])), (a_back3, .inl (cI, 8, .inl back3))] H → va_D A [(a_p0, .inr (0, [.ref a_flipsOf, .ref z_termsAt, .ref a_numbers, .ref a_spread, .int drawn, .int held, .int terms, .int widest, .int halvings, .int foundSigns])), (a_flipsOf, .inl (cI, 60, .inl flipsOf)), (a_numbers, .inl (cJ, 256, .inr (.inl numbers))), (a_spread, .inl (cI, 256, .inl spread)), (a_p2, .inr (1, [.ref a_keys2, .ref a_numbers2, .ref z_spareKeys2, .ref z_spareNumbers2, .int count2])), (a_keys2, .inl (cI, 60, .inl keys2)), (a_numbers2, .inl (cI, 60, .inl numbers2)), (a_p3, .inr (2, [.ref z_told3, .ref z_rows3, .ref a_back3, .ref z_spareBack3, .ref z_left3, .int size3, .int kind3])), (a_back3, .inl (cI, 8, .inl back3))] → va_S A s.heap H locs → lv_has ls 6 [(0, .ref a_p0), (1, .int x1), (2, .ref a_p2), (3, .ref a_p3), (5, .int x5)] → W p l e (headSpec (Cond.code y_Pi_hold prog_2_method_4_code 6 none :: T0) rm_Pi_hold).room s m ([.ref a_p0, .int p1, .ref a_p2, .ref a_p3] : List Value).toArray below meth c H locs 0 0 Q (F0 m 35 ls [])), ∀ (x1 : Int32) (x5 : Int32) (held : Int32) (numbers : Nat → Int64) (spread : Nat → Int32) (H : Heap) (locs : List Loc) (ls : Array Slot), b_Pi_hold_79 F k_35 flipsOf count2 keys2 numbers2 size3 back3 x1 x5 held numbers spread = some u → va_P (dC, dI) cls [(a_p0, .inr (0, [.ref a_flipsOf, .ref z_termsAt, .ref a_numbers, .ref a_spread, .int drawn, .int held, .int terms, .int widest, .int halvings, .int foundSigns])), (a_flipsOf, .inl (cI, 60, .inl flipsOf)), (a_numbers, .inl (cJ, 256, .inr (.inl numbers))), (a_spread, .inl (cI, 256, .inl spread)), (a_p2, .inr (1, [.ref a_keys2, .ref a_numbers2, .ref z_spareKeys2, .ref z_spareNumbers2, .int count2])), (a_keys2, .inl (cI, 60, .inl keys2)), (a_numbers2, .inl (cI, 60, .inl numbers2)), (a_p3, .inr (2, [.ref z_told3, .ref z_rows3, .ref a_back3, .ref z_spareBack3, .ref z_left3, .int size3, .int kind3])), (a_back3, .inl (cI, 8, .inl back3))] H → va_D A [(a_p0, .inr (0, [.ref a_flipsOf, .ref z_termsAt, .ref a_numbers, .ref a_spread, .int drawn, .int held, .int terms, .int widest, .int halvings, .int foundSigns])), (a_flipsOf, .inl (cI, 60, .inl flipsOf)), (a_numbers, .inl (cJ, 256, .inr (.inl numbers))), (a_spread, .inl (cI, 256, .inl spread)), (a_p2, .inr (1, [.ref a_keys2, .ref a_numbers2, .ref z_spareKeys2, .ref z_spareNumbers2, .int count2])), (a_keys2, .inl (cI, 60, .inl keys2)), (a_numbers2, .inl (cI, 60, .inl numbers2)), (a_p3, .inr (2, [.ref z_told3, .ref z_rows3, .ref a_back3, .ref z_spareBack3, .ref z_left3, .int size3, .int kind3])), (a_back3, .inl (cI, 8, .inl back3))] → va_S A s.heap H locs → lv_has ls 6 [(0, .ref a_p0), (1, .int x1), (2, .ref a_p2), (3, .ref a_p3), (5, .int x5)] → W p l e (headSpec (Cond.code y_Pi_hold prog_2_method_4_code 6 none :: T0) rm_Pi_hold).room s m ([.ref a_p0, .int p1, .ref a_p2, .ref a_p3] : List Value).toArray below meth c H locs 0 0 Q (F0 m 79 ls []) := by
    intro k_35 hk_35
    intro x1 x5 held numbers spread H locs ls hf hP hD hS hl
    rw [b_Pi_hold_79] at hf
    obtain ⟨x5_6, e_x5_6⟩ : ∃ y : Int32, y = x5 + 1 := ⟨_, rfl⟩
    replace hf := nm_eq e_x5_6 hf
    refine lv_iinc (v := x5_6) (lv' := [(5, .int x5_6), (0, .ref a_p0), (1, .int x1), (2, .ref a_p2), (3, .ref a_p3)]) hx hb d_Pi_hold_79 hl (k := 4) rfl (by rw [e_x5_6]; rfl) (by decide) rfl (fun ls hl => ?_)
    refine lv_goto (tgt := 35) hx hb d_Pi_hold_82 (by decide) ?_
    exact hk_35 x1 x5_6 held numbers spread H locs ls hf hP hD hS (lv_sub hl [1, 2, 3, 4, 0] rfl)
  have B_35 : ∀ (n : Nat), ∀ (x1 : Int32) (x5 : Int32) (held : Int32) (numbers : Nat → Int64) (spread : Nat → Int32) (H : Heap) (locs : List Loc) (ls : Array Slot), b_Pi_hold_35 F flipsOf count2 keys2 numbers2 size3 back3 n x1 x5 held numbers spread = some u → va_P (dC, dI) cls [(a_p0, .inr (0, [.ref a_flipsOf, .ref z_termsAt, .ref a_numbers, .ref a_spread, .int drawn, .int held, .int terms, .int widest, .int halvings, .int foundSigns])), (a_flipsOf, .inl (cI, 60, .inl flipsOf)), (a_numbers, .inl (cJ, 256, .inr (.inl numbers))), (a_spread, .inl (cI, 256, .inl spread)), (a_p2, .inr (1, [.ref a_keys2, .ref a_numbers2, .ref z_spareKeys2, .ref z_spareNumbers2, .int count2])), (a_keys2, .inl (cI, 60, .inl keys2)), (a_numbers2, .inl (cI, 60, .inl numbers2)), (a_p3, .inr (2, [.ref z_told3, .ref z_rows3, .ref a_back3, .ref z_spareBack3, .ref z_left3, .int size3, .int kind3])), (a_back3, .inl (cI, 8, .inl back3))] H → va_D A [(a_p0, .inr (0, [.ref a_flipsOf, .ref z_termsAt, .ref a_numbers, .ref a_spread, .int drawn, .int held, .int terms, .int widest, .int halvings, .int foundSigns])), (a_flipsOf, .inl (cI, 60, .inl flipsOf)), (a_numbers, .inl (cJ, 256, .inr (.inl numbers))), (a_spread, .inl (cI, 256, .inl spread)), (a_p2, .inr (1, [.ref a_keys2, .ref a_numbers2, .ref z_spareKeys2, .ref z_spareNumbers2, .int count2])), (a_keys2, .inl (cI, 60, .inl keys2)), (a_numbers2, .inl (cI, 60, .inl numbers2)), (a_p3, .inr (2, [.ref z_told3, .ref z_rows3, .ref a_back3, .ref z_spareBack3, .ref z_left3, .int size3, .int kind3])), (a_back3, .inl (cI, 8, .inl back3))] → va_S A s.heap H locs → lv_has ls 6 [(0, .ref a_p0), (1, .int x1), (2, .ref a_p2), (3, .ref a_p3), (5, .int x5)] → W p l e (headSpec (Cond.code y_Pi_hold prog_2_method_4_code 6 none :: T0) rm_Pi_hold).room s m ([.ref a_p0, .int p1, .ref a_p2, .ref a_p3] : List Value).toArray below meth c H locs 0 0 Q (F0 m 35 ls []) := by
    intro n
    induction n with
    | zero =>
      intro x1 x5 held numbers spread H locs ls hf hP hD hS hl
      exact no_fuel hf
    | succ n ih =>
      intro x1 x5 held numbers spread H locs ls hf hP hD hS hl
      rw [b_Pi_hold_35] at hf
      refine lv_iload hx hb d_Pi_hold_35 (lv_at hl 4 rfl) ?_
      refine lv_aload_n hx hb d_Pi_hold_37 rfl (lv_at hl 2 rfl) ?_
      refine va_get (D := (dC, dI)) (ci := 1) (v := .int count2) (C := "FermionMaps$Sum") (T := F_Su) (N := 5) hx hb ht0 i_Su hown hK hP 4 rfl rfl 4 (by decide) (ht0 _ m_34) (fun _ h9 => h9) rfl d_Pi_hold_38 ?_
      refine lv_icmp_ge (tgt := 85) hx hb d_Pi_hold_41 (by decide) (fun c_3 => ?_) (fun c_3 => ?_)
      · replace hf := if_t c_3 hf
        refine lv_aload_n hx hb d_Pi_hold_85 rfl (lv_at hl 0 rfl) ?_
        refine lv_iload_n hx hb d_Pi_hold_86 rfl (lv_at hl 1 rfl) ?_
        refine va_put (D := (dC, dI)) (ci := 0) (v := .int x1) (ty := .int) (C := "FermionMaps$Picture") (T := F_Pi) (N := 10) hx hb ht0 i_Pi t_Pi t_Pi_ok n_Pi hown hK hP hD hS 0 rfl rfl 5 (by decide) (ht0 _ m_95) (fun _ h9 => h9) rfl (by decide +kernel) rfl rfl (Nat.le_of_ble_eq_true rfl) d_Pi_hold_87 (fun H locs hP hD hS => ?_)
        have hP : va_P (dC, dI) cls [(a_p0, .inr (0, [.ref a_flipsOf, .ref z_termsAt, .ref a_numbers, .ref a_spread, .int drawn, .int x1, .int terms, .int widest, .int halvings, .int foundSigns])), (a_flipsOf, .inl (cI, 60, .inl flipsOf)), (a_numbers, .inl (cJ, 256, .inr (.inl numbers))), (a_spread, .inl (cI, 256, .inl spread)), (a_p2, .inr (1, [.ref a_keys2, .ref a_numbers2, .ref z_spareKeys2, .ref z_spareNumbers2, .int count2])), (a_keys2, .inl (cI, 60, .inl keys2)), (a_numbers2, .inl (cI, 60, .inl numbers2)), (a_p3, .inr (2, [.ref z_told3, .ref z_rows3, .ref a_back3, .ref z_spareBack3, .ref z_left3, .int size3, .int kind3])), (a_back3, .inl (cI, 8, .inl back3))] H := hP
        have hD : va_D A [(a_p0, .inr (0, [.ref a_flipsOf, .ref z_termsAt, .ref a_numbers, .ref a_spread, .int drawn, .int x1, .int terms, .int widest, .int halvings, .int foundSigns])), (a_flipsOf, .inl (cI, 60, .inl flipsOf)), (a_numbers, .inl (cJ, 256, .inr (.inl numbers))), (a_spread, .inl (cI, 256, .inl spread)), (a_p2, .inr (1, [.ref a_keys2, .ref a_numbers2, .ref z_spareKeys2, .ref z_spareNumbers2, .int count2])), (a_keys2, .inl (cI, 60, .inl keys2)), (a_numbers2, .inl (cI, 60, .inl numbers2)), (a_p3, .inr (2, [.ref z_told3, .ref z_rows3, .ref a_back3, .ref z_spareBack3, .ref z_left3, .int size3, .int kind3])), (a_back3, .inl (cI, 8, .inl back3))] := hD
        have hu := Option.some.inj hf
        subst hu
        exact rw_v hQ rfl hP hD hK hS hx hb hr hlocks d_Pi_hold_90
      · replace hf := if_f c_3 hf
        refine lv_aload_n hx hb d_Pi_hold_44 rfl (lv_at hl 0 rfl) ?_
        refine va_get (D := (dC, dI)) (ci := 0) (v := .ref a_flipsOf) (C := "FermionMaps$Picture") (T := F_Pi) (N := 10) hx hb ht0 i_Pi hown hK hP 0 rfl rfl 0 (by decide) (ht0 _ m_89) (fun _ h9 => h9) rfl d_Pi_hold_45 ?_
        refine lv_iload hx hb d_Pi_hold_48 (lv_at hl 4 rfl) ?_
        obtain ⟨hi_4, hf⟩ := ckI_ok hf
        refine va_iald hx hb hK hP 1 0 rfl rfl hi_4 d_Pi_hold_50 ?_
        refine lv_iload_n hx hb d_Pi_hold_51 rfl (lv_at hl 1 rfl) ?_
        refine lv_icmp_ne (tgt := 79) hx hb d_Pi_hold_52 (by decide) (fun c_5 => ?_) (fun c_5 => ?_)
        · replace hf := if_f c_5 hf
          exact B_79 (b_Pi_hold_35 F flipsOf count2 keys2 numbers2 size3 back3 n) ih x1 x5 held numbers spread H locs ls hf hP hD hS (lv_sub hl [0, 1, 2, 3, 4] rfl)
        · replace hf := if_t c_5 hf
          refine lv_aload_n hx hb d_Pi_hold_55 rfl (lv_at hl 0 rfl) ?_
          refine lv_aload_n hx hb d_Pi_hold_56 rfl (lv_at hl 2 rfl) ?_
          refine lv_iload hx hb d_Pi_hold_57 (lv_at hl 4 rfl) ?_
          obtain ⟨u_7, h_u_7, hf⟩ := bd hf
          refine rd_i (rdV_run (As := [.int x5]) (rest := [.ref a_p0]) ⟨hx, hb, hml, hown, ht0⟩ (c_Su_upsOf l dC dI cI cJ a_p2 a_keys2 a_numbers2 z_spareKeys2 z_spareNumbers2 count2 keys2 x5 F u_7 h_u_7) (cwV 1 ht0 (gV m_269 m_270 m_271 m_2 m_272) rfl rfl rfl (by decide +kernel) ⟨Nat.le_of_ble_eq_true rfl, Nat.le_of_ble_eq_true rfl⟩) hK hNW hP [4, 5] rfl (ci := 1) (q0 := 4) rfl rfl rfl hl.1 rfl (Nat.le_of_ble_eq_true rfl) d_Pi_hold_59 ⟨Nat.zero_le _, Nat.zero_le _⟩) ?_
          refine lv_aload_n hx hb d_Pi_hold_62 rfl (lv_at hl 2 rfl) ?_
          refine lv_iload hx hb d_Pi_hold_63 (lv_at hl 4 rfl) ?_
          obtain ⟨u_8, h_u_8, hf⟩ := bd hf
          refine rd_i (rdV_run (As := [.int x5]) (rest := [.int u_7, .ref a_p0]) ⟨hx, hb, hml, hown, ht0⟩ (c_Su_downsOf l dC dI cI cJ a_p2 a_keys2 a_numbers2 z_spareKeys2 z_spareNumbers2 count2 keys2 x5 F u_8 h_u_8) (cwV 1 ht0 (gV m_273 m_274 m_275 m_2 m_276) rfl rfl rfl (by decide +kernel) ⟨Nat.le_of_ble_eq_true rfl, Nat.le_of_ble_eq_true rfl⟩) hK hNW hP [4, 5] rfl (ci := 1) (q0 := 4) rfl rfl rfl hl.1 rfl (Nat.le_of_ble_eq_true rfl) d_Pi_hold_65 ⟨Nat.zero_le _, Nat.zero_le _⟩) ?_
          refine lv_aload_n hx hb d_Pi_hold_68 rfl (lv_at hl 2 rfl) ?_
          refine va_get (D := (dC, dI)) (ci := 1) (v := .ref a_numbers2) (C := "FermionMaps$Sum") (T := F_Su) (N := 5) hx hb ht0 i_Su hown hK hP 4 rfl rfl 1 (by decide) (ht0 _ m_28) (fun _ h9 => h9) rfl d_Pi_hold_69 ?_
          refine lv_iload hx hb d_Pi_hold_72 (lv_at hl 4 rfl) ?_
          obtain ⟨hi_9, hf⟩ := ckI_ok hf
          refine va_iald hx hb hK hP 6 0 rfl rfl hi_9 d_Pi_hold_74 ?_
          refine lv_aload_n hx hb d_Pi_hold_75 rfl (lv_at hl 3 rfl) ?_
          obtain ⟨u_10, h_u_10, hf⟩ := bd hf
          refine wr_v (wr := [(a_flipsOf, .inl (cI, 60, .inl flipsOf)), (a_p2, .inr (1, [.ref a_keys2, .ref a_numbers2, .ref z_spareKeys2, .ref z_spareNumbers2, .int count2])), (a_keys2, .inl (cI, 60, .inl keys2)), (a_numbers2, .inl (cI, 60, .inl numbers2))]) (wrV_run (As := [.int u_7, .int u_8, .int (numbers2 x5.toNatClampNeg), .ref a_p3]) (rest := []) ⟨hx, hb, hml, hown, ht0⟩ (c_Pi_bring l dC dI cI cJ a_p0 a_numbers a_spread a_p3 a_back3 a_flipsOf z_termsAt z_told3 z_rows3 z_spareBack3 z_left3 H.size drawn held terms widest halvings foundSigns numbers spread size3 kind3 back3 u_7 u_8 (numbers2 x5.toNatClampNeg) F u_10 h_u_10) (cwV 4 ht0 (gV m_282 m_283 m_284 m_4 m_285) rfl rfl rfl (by decide +kernel) ⟨Nat.le_of_ble_eq_true rfl, Nat.le_of_ble_eq_true rfl⟩) hK hNW hP hD [0, 2, 3, 7, 8] rfl rfl (by decide) (ci := 0) (q0 := 0) rfl rfl rfl hl.1 rfl (Nat.le_of_ble_eq_true rfl) d_Pi_hold_76 ⟨Nat.zero_le _, Nat.zero_le _⟩) hP hD hS hA [0, 2, 3, 7, 8] [1, 4, 5, 6] rfl rfl (by decide) (by decide) (fun w1 H locs hw hP hD hS => ?_)
          obtain rfl := hw
          have hP : va_P (dC, dI) cls [(a_p0, .inr (0, [.ref a_flipsOf, .ref z_termsAt, .ref a_numbers, .ref a_spread, .int drawn, .int held, .int terms, .int widest, .int halvings, .int foundSigns])), (a_flipsOf, .inl (cI, 60, .inl flipsOf)), (a_numbers, .inl (cJ, 256, .inr (.inl u_10.1))), (a_spread, .inl (cI, 256, .inl u_10.2)), (a_p2, .inr (1, [.ref a_keys2, .ref a_numbers2, .ref z_spareKeys2, .ref z_spareNumbers2, .int count2])), (a_keys2, .inl (cI, 60, .inl keys2)), (a_numbers2, .inl (cI, 60, .inl numbers2)), (a_p3, .inr (2, [.ref z_told3, .ref z_rows3, .ref a_back3, .ref z_spareBack3, .ref z_left3, .int size3, .int kind3])), (a_back3, .inl (cI, 8, .inl back3))] H := hP.sub [4, 0, 5, 6, 1, 2, 3, 7, 8] rfl
          have hD : va_D A [(a_p0, .inr (0, [.ref a_flipsOf, .ref z_termsAt, .ref a_numbers, .ref a_spread, .int drawn, .int held, .int terms, .int widest, .int halvings, .int foundSigns])), (a_flipsOf, .inl (cI, 60, .inl flipsOf)), (a_numbers, .inl (cJ, 256, .inr (.inl u_10.1))), (a_spread, .inl (cI, 256, .inl u_10.2)), (a_p2, .inr (1, [.ref a_keys2, .ref a_numbers2, .ref z_spareKeys2, .ref z_spareNumbers2, .int count2])), (a_keys2, .inl (cI, 60, .inl keys2)), (a_numbers2, .inl (cI, 60, .inl numbers2)), (a_p3, .inr (2, [.ref z_told3, .ref z_rows3, .ref a_back3, .ref z_spareBack3, .ref z_left3, .int size3, .int kind3])), (a_back3, .inl (cI, 8, .inl back3))] := hD.sub [4, 0, 5, 6, 1, 2, 3, 7, 8] (by decide) rfl
          exact B_79 (b_Pi_hold_35 F flipsOf count2 keys2 numbers2 size3 back3 n) ih x1 x5 held u_10.1 u_10.2 H locs ls hf hP hD hS (lv_sub hl [0, 1, 2, 3, 4] rfl)
  have B_11 : ∀ (n : Nat), ∀ (x1 : Int32) (x4 : Int32) (x5 : Int32) (held : Int32) (numbers : Nat → Int64) (spread : Nat → Int32) (H : Heap) (locs : List Loc) (ls : Array Slot), b_Pi_hold_11 F flipsOf count2 keys2 numbers2 size3 back3 n x1 x4 x5 held numbers spread = some u → va_P (dC, dI) cls [(a_p0, .inr (0, [.ref a_flipsOf, .ref z_termsAt, .ref a_numbers, .ref a_spread, .int drawn, .int held, .int terms, .int widest, .int halvings, .int foundSigns])), (a_flipsOf, .inl (cI, 60, .inl flipsOf)), (a_numbers, .inl (cJ, 256, .inr (.inl numbers))), (a_spread, .inl (cI, 256, .inl spread)), (a_p2, .inr (1, [.ref a_keys2, .ref a_numbers2, .ref z_spareKeys2, .ref z_spareNumbers2, .int count2])), (a_keys2, .inl (cI, 60, .inl keys2)), (a_numbers2, .inl (cI, 60, .inl numbers2)), (a_p3, .inr (2, [.ref z_told3, .ref z_rows3, .ref a_back3, .ref z_spareBack3, .ref z_left3, .int size3, .int kind3])), (a_back3, .inl (cI, 8, .inl back3))] H → va_D A [(a_p0, .inr (0, [.ref a_flipsOf, .ref z_termsAt, .ref a_numbers, .ref a_spread, .int drawn, .int held, .int terms, .int widest, .int halvings, .int foundSigns])), (a_flipsOf, .inl (cI, 60, .inl flipsOf)), (a_numbers, .inl (cJ, 256, .inr (.inl numbers))), (a_spread, .inl (cI, 256, .inl spread)), (a_p2, .inr (1, [.ref a_keys2, .ref a_numbers2, .ref z_spareKeys2, .ref z_spareNumbers2, .int count2])), (a_keys2, .inl (cI, 60, .inl keys2)), (a_numbers2, .inl (cI, 60, .inl numbers2)), (a_p3, .inr (2, [.ref z_told3, .ref z_rows3, .ref a_back3, .ref z_spareBack3, .ref z_left3, .int size3, .int kind3])), (a_back3, .inl (cI, 8, .inl back3))] → va_S A s.heap H locs → lv_has ls 6 [(0, .ref a_p0), (1, .int x1), (2, .ref a_p2), (3, .ref a_p3), (4, .int x4), (5, .int x5)] → W p l e (headSpec (Cond.code y_Pi_hold prog_2_method_4_code 6 none :: T0) rm_Pi_hold).room s m ([.ref a_p0, .int p1, .ref a_p2, .ref a_p3] : List Value).toArray below meth c H locs 0 0 Q (F0 m 11 ls []) := by
    intro n
    induction n with
    | zero =>
      intro x1 x4 x5 held numbers spread H locs ls hf hP hD hS hl
      exact no_fuel hf
    | succ n ih =>
      intro x1 x4 x5 held numbers spread H locs ls hf hP hD hS hl
      rw [b_Pi_hold_11] at hf
      refine lv_iload hx hb d_Pi_hold_11 (lv_at hl 5 rfl) ?_
      refine lv_iload hx hb d_Pi_hold_13 (lv_at hl 4 rfl) ?_
      refine lv_icmp_ge (tgt := 32) hx hb d_Pi_hold_15 (by decide) (fun c_2 => ?_) (fun c_2 => ?_)
      · replace hf := if_t c_2 hf
        refine lv_iconst (v := 0) hx hb d_Pi_hold_32 (by decide) ?_
        refine lv_istore (lv' := [(5, .int 0), (0, .ref a_p0), (1, .int x1), (2, .ref a_p2), (3, .ref a_p3), (4, .int x4)]) hx hb d_Pi_hold_33 hl (by decide) rfl (fun ls hl => ?_)
        exact B_35 F x1 0 held numbers spread H locs ls hf hP hD hS (lv_sub hl [1, 2, 3, 4, 0] rfl)
      · replace hf := if_f c_2 hf
        refine lv_aload_n hx hb d_Pi_hold_18 rfl (lv_at hl 0 rfl) ?_
        refine va_get (D := (dC, dI)) (ci := 0) (v := .ref a_numbers) (C := "FermionMaps$Picture") (T := F_Pi) (N := 10) hx hb ht0 i_Pi hown hK hP 0 rfl rfl 2 (by decide) (ht0 _ m_91) (fun _ h9 => h9) rfl d_Pi_hold_19 ?_
        refine lv_iload hx hb d_Pi_hold_22 (lv_at hl 5 rfl) ?_
        refine lv_lconst (v := 0) hx hb d_Pi_hold_24 (by decide) ?_
        obtain ⟨hi_11, hf⟩ := ckI_ok hf
        refine va_last hx hb hK hP hD hS 2 1 rfl rfl hi_11 d_Pi_hold_25 (fun H locs hP hD hS => ?_)
        have hP : va_P (dC, dI) cls [(a_p0, .inr (0, [.ref a_flipsOf, .ref z_termsAt, .ref a_numbers, .ref a_spread, .int drawn, .int held, .int terms, .int widest, .int halvings, .int foundSigns])), (a_flipsOf, .inl (cI, 60, .inl flipsOf)), (a_numbers, .inl (cJ, 256, .inr (.inl (vp_updL numbers x5.toNatClampNeg 0)))), (a_spread, .inl (cI, 256, .inl spread)), (a_p2, .inr (1, [.ref a_keys2, .ref a_numbers2, .ref z_spareKeys2, .ref z_spareNumbers2, .int count2])), (a_keys2, .inl (cI, 60, .inl keys2)), (a_numbers2, .inl (cI, 60, .inl numbers2)), (a_p3, .inr (2, [.ref z_told3, .ref z_rows3, .ref a_back3, .ref z_spareBack3, .ref z_left3, .int size3, .int kind3])), (a_back3, .inl (cI, 8, .inl back3))] H := hP
        have hD : va_D A [(a_p0, .inr (0, [.ref a_flipsOf, .ref z_termsAt, .ref a_numbers, .ref a_spread, .int drawn, .int held, .int terms, .int widest, .int halvings, .int foundSigns])), (a_flipsOf, .inl (cI, 60, .inl flipsOf)), (a_numbers, .inl (cJ, 256, .inr (.inl (vp_updL numbers x5.toNatClampNeg 0)))), (a_spread, .inl (cI, 256, .inl spread)), (a_p2, .inr (1, [.ref a_keys2, .ref a_numbers2, .ref z_spareKeys2, .ref z_spareNumbers2, .int count2])), (a_keys2, .inl (cI, 60, .inl keys2)), (a_numbers2, .inl (cI, 60, .inl numbers2)), (a_p3, .inr (2, [.ref z_told3, .ref z_rows3, .ref a_back3, .ref z_spareBack3, .ref z_left3, .int size3, .int kind3])), (a_back3, .inl (cI, 8, .inl back3))] := hD
        obtain ⟨x5_12, e_x5_12⟩ : ∃ y : Int32, y = x5 + 1 := ⟨_, rfl⟩
        replace hf := nm_eq e_x5_12 hf
        refine lv_iinc (v := x5_12) (lv' := [(5, .int x5_12), (0, .ref a_p0), (1, .int x1), (2, .ref a_p2), (3, .ref a_p3), (4, .int x4)]) hx hb d_Pi_hold_26 hl (k := 5) rfl (by rw [e_x5_12]; rfl) (by decide) rfl (fun ls hl => ?_)
        refine lv_goto (tgt := 11) hx hb d_Pi_hold_29 (by decide) ?_
        exact ih x1 x4 x5_12 held (vp_updL numbers x5.toNatClampNeg 0) spread H locs ls hf hP hD hS (lv_sub hl [1, 2, 3, 4, 5, 0] rfl)
  rw [f_Pi_hold] at hf
  refine lv_iconst (v := 1) hx hb d_Pi_hold_0 (by decide) ?_
  refine lv_aload_n hx hb d_Pi_hold_1 rfl (lv_at hl 3 rfl) ?_
  refine va_get (D := (dC, dI)) (ci := 2) (v := .int size3) (C := "FermionMaps$Wiring") (T := F_Wi) (N := 7) hx hb ht0 i_Wi hown hK hP 7 rfl rfl 5 (by decide) (ht0 _ m_64) (fun _ h9 => h9) rfl d_Pi_hold_2 ?_
  refine lv_ishl hx hb d_Pi_hold_5 ?_
  refine lv_topi (fun x4_1 e_x4_1 => ?_)
  replace hf := nm_eq e_x4_1 hf
  refine lv_istore (lv' := [(4, .int x4_1), (0, .ref a_p0), (1, .int p1), (2, .ref a_p2), (3, .ref a_p3)]) hx hb d_Pi_hold_6 hl (by decide) rfl (fun ls hl => ?_)
  refine lv_iconst (v := 0) hx hb d_Pi_hold_8 (by decide) ?_
  refine lv_istore (lv' := [(5, .int 0), (4, .int x4_1), (0, .ref a_p0), (1, .int p1), (2, .ref a_p2), (3, .ref a_p3)]) hx hb d_Pi_hold_9 hl (by decide) rfl (fun ls hl => ?_)
  exact B_11 F p1 x4_1 0 held numbers spread s.heap [] ls hf hP hD hS (lv_sub hl [2, 3, 4, 5, 1, 0] rfl)

/-! FermionMaps$Picture.tally(I)J -/
def b_Pi_tally_60 (F : Nat) (k_8 : Int32 → Int64 → Int32 → Int32 → Int32 → Int32 → (Nat → Int32) → Option (Int64 × Int32 × Int32 × (Nat → Int32))) (held : Int32) (numbers : Nat → Int64) (x1 : Int32) (x2 : Int64) (x4 : Int32) (x5 : Int32) (terms : Int32) (widest : Int32) (termsAt : Nat → Int32) : Option (Int64 × Int32 × Int32 × (Nat → Int32)) :=
  nm (x5 + 1 : Int32) fun x5_6 =>
  k_8 x1 x2 x4 x5_6 terms widest termsAt
def b_Pi_tally_8 (F : Nat) (held : Int32) (numbers : Nat → Int64) : Nat → Int32 → Int64 → Int32 → Int32 → Int32 → Int32 → (Nat → Int32) → Option (Int64 × Int32 × Int32 × (Nat → Int32))
  | 0, _, _, _, _, _, _, _ => none
  | n + 1, x1, x2, x4, x5, terms, widest, termsAt =>
    if x1 ≤ x5 then
      ckI held 256 <|
      nm ((terms + x4) : Int32) fun terms_3 =>
      some (x2, terms_3, widest, (upd termsAt held.toNatClampNeg x4))
    else
      ckI x5 256 <|
      if (lg_cmp (numbers x5.toNatClampNeg) 0) = 0 then
        b_Pi_tally_60 F (b_Pi_tally_8 F held numbers n) held numbers x1 x2 x4 x5 terms widest termsAt
      else
        ckI x5 256 <|
        nm ((x2 ||| (numbers x5.toNatClampNeg)) : Int64) fun x2_8 =>
        nm (x4 + 1 : Int32) fun x4_9 =>
        (f_In_bitCount F (held ||| x5)).bind fun u_10 =>
        nm ((if widest < u_10 then u_10 else widest) : Int32) fun t_11 =>
        b_Pi_tally_60 F (b_Pi_tally_8 F held numbers n) held numbers x1 x2_8 x4_9 x5 terms t_11 termsAt
def f_Pi_tally (F : Nat) (held : Int32) (terms : Int32) (widest : Int32) (termsAt : Nat → Int32) (numbers : Nat → Int64) (p1 : Int32) : Option (Int64 × Int32 × Int32 × (Nat → Int32)) :=
  b_Pi_tally_8 F held numbers F p1 0 0 0 terms widest termsAt
abbrev rm_Pi_tally : Room := { frames := 1, cells := 0, slots := 0, locals := 21 }
set_option maxHeartbeats 4000000 in
set_option maxRecDepth 100000 in
theorem c_Pi_tally (l : Launch) (dC : Nat → ClassId) (dI : Nat → Nat → Nat) (cI cJ : ClassId) (a_p0 a_termsAt a_numbers z_flipsOf z_spread : Nat) (sz : Nat) (drawn : Int32) (held : Int32) (terms : Int32) (widest : Int32) (halvings : Int32) (foundSigns : Int32) (termsAt : Nat → Int32) (numbers : Nat → Int64) (p1 : Int32) (F : Nat) (u : Int64 × Int32 × Int32 × (Nat → Int32)) (hf : f_Pi_tally F held terms widest termsAt numbers p1 = some u) : Met l y_Pi_tally (Cond.code y_Pi_tally prog_2_method_5_code 6 (some .long) :: T0) rm_Pi_tally (va_Pc [.ref a_p0, .int p1] (Ww (dC, dI) [(a_p0, .inr (0, [.ref z_flipsOf, .ref a_termsAt, .ref a_numbers, .ref z_spread, .int drawn, .int held, .int terms, .int widest, .int halvings, .int foundSigns])), (a_termsAt, .inl (cI, 256, .inl termsAt)), (a_numbers, .inl (cJ, 256, .inr (.inl numbers)))] [(cI, .int), (cJ, .long)] sz)) (va_Ql (fun r (_ : Unit) => r = u.1) (Bw (dC, dI) [(cI, .int), (cJ, .long)] (va_A [(a_p0, .inr (0, [.ref z_flipsOf, .ref a_termsAt, .ref a_numbers, .ref z_spread, .int drawn, .int held, .int terms, .int widest, .int halvings, .int foundSigns])), (a_termsAt, .inl (cI, 256, .inl termsAt)), (a_numbers, .inl (cJ, 256, .inr (.inl numbers)))] sz) (fun w1 => w1 = [(a_p0, .inr (0, [.ref z_flipsOf, .ref a_termsAt, .ref a_numbers, .ref z_spread, .int drawn, .int held, .int u.2.1, .int u.2.2.1, .int halvings, .int foundSigns])), (a_termsAt, .inl (cI, 256, .inl u.2.2.2)), (a_numbers, .inl (cJ, 256, .inr (.inl numbers)))])) (va_A [(a_p0, .inr (0, [.ref z_flipsOf, .ref a_termsAt, .ref a_numbers, .ref z_spread, .int drawn, .int held, .int terms, .int widest, .int halvings, .int foundSigns])), (a_termsAt, .inl (cI, 256, .inl termsAt)), (a_numbers, .inl (cJ, 256, .inr (.inl numbers)))] sz)) 0 0 (va_A [(a_p0, .inr (0, [.ref z_flipsOf, .ref a_termsAt, .ref a_numbers, .ref z_spread, .int drawn, .int held, .int terms, .int widest, .int halvings, .int foundSigns])), (a_termsAt, .inl (cI, 256, .inl termsAt)), (a_numbers, .inl (cJ, 256, .inr (.inl numbers)))] sz) := by
  refine Met.ofW (cc := prog_2_method_5_code) (maxL := 6) (ret := (some .long)) (by decide) rfl ?_
  intro p e s m args below meth c s₁ B hml hv
  obtain ⟨rfl, hsz, hP, hK, hD0, hNW⟩ := hv
  have hx := B.exec
  have hb := B.bytes
  have hr := B.returns
  have hts := atoms_spec (ws := Cond.code y_Pi_tally prog_2_method_5_code 6 (some .long) :: T0) B.pre
  have ht0 : ∀ w ∈ T0, w.before ([.ref a_p0, .int p1] : List Value).toArray s = true := fun w h => hts w (List.mem_cons_of_mem _ h)
  have hown : s.vm.findClass "FermionMaps$Picture" = some m.cls := findClass_of_methodNamed B.named
  have hlocks := B.notSynchronized
  subst hsz
  have hD := hD0.self (sz := s.heap.size)
  generalize hAe : va_A [(a_p0, .inr (0, [.ref z_flipsOf, .ref a_termsAt, .ref a_numbers, .ref z_spread, .int drawn, .int held, .int terms, .int widest, .int halvings, .int foundSigns])), (a_termsAt, .inl (cI, 256, .inl termsAt)), (a_numbers, .inl (cJ, 256, .inr (.inl numbers)))] s.heap.size = A at hD ⊢
  have hA : ∀ q : Nat, s.heap.size ≤ q → A q := fun q h => by rw [← hAe]; exact Or.inr h
  have hS : va_S A s.heap s.heap [] := va_S.rf
  have hl := lv_entry ([.ref a_p0, .int p1]) (n := 6) (Nat.le_of_ble_eq_true rfl)
  rw [lg_entry_eq]
  generalize (lg_sl ([.ref a_p0, .int p1]) ++ List.replicate (6 - (lg_sl ([.ref a_p0, .int p1])).length) Slot.unset).toArray = ls at hl ⊢
  have hl : lv_has ls 6 [(0, .ref a_p0), (1, .int p1)] := hl
  refine W.nameQ (fun Q hQ => ?_)
  have B_60 : ∀ (k_8 : Int32 → Int64 → Int32 → Int32 → Int32 → Int32 → (Nat → Int32) → Option (Int64 × Int32 × Int32 × (Nat → Int32))) (hk_8 : ∀ (x1 : Int32) (x2 : Int64) (x4 : Int32) (x5 : Int32) (terms : Int32) (widest : Int32) (termsAt : Nat → Int32) (H : Heap) (locs : List Loc) (ls : Array Slot), k_8 x1 x2 x4 x5 terms widest termsAt = some u → va_P (dC, dI) cls [(a_p0, .inr (0, [.ref z_flipsOf, .ref a_termsAt, .ref a_numbers, .ref z_spread, .int drawn, .int held, .int terms, .int widest, .int halvings, .int foundSigns])), (a_termsAt, .inl (cI, 256, .inl termsAt)), (a_numbers, .inl (cJ, 256, .inr (.inl numbers)))] H → va_D A [(a_p0, .inr (0, [.ref z_flipsOf, .ref a_termsAt, .ref a_numbers, .ref z_spread, .int drawn, .int held, .int terms, .int widest, .int halvings, .int foundSigns])), (a_termsAt, .inl (cI, 256, .inl termsAt)), (a_numbers, .inl (cJ, 256, .inr (.inl numbers)))] → va_S A s.heap H locs → lv_has ls 6 [(0, .ref a_p0), (1, .int x1), (2, .long x2), (4, .int x4), (5, .int x5)] → W p l e (headSpec (Cond.code y_Pi_tally prog_2_method_5_code 6 (some .long) :: T0) rm_Pi_tally).room s m ([.ref a_p0, .int p1] : List Value).toArray below meth c H locs 0 0 Q (F0 m 8 ls [])), ∀ (x1 : Int32) (x2 : Int64) (x4 : Int32) (x5 : Int32) (terms : Int32) (widest : Int32) (termsAt : Nat → Int32) (H : Heap) (locs : List Loc) (ls : Array Slot), b_Pi_tally_60 F k_8 held numbers x1 x2 x4 x5 terms widest termsAt = some u → va_P (dC, dI) cls [(a_p0, .inr (0, [.ref z_flipsOf, .ref a_termsAt, .ref a_numbers, .ref z_spread, .int drawn, .int held, .int terms, .int widest, .int halvings, .int foundSigns])), (a_termsAt, .inl (cI, 256, .inl termsAt)), (a_numbers, .inl (cJ, 256, .inr (.inl numbers)))] H → va_D A [(a_p0, .inr (0, [.ref z_flipsOf, .ref a_termsAt, .ref a_numbers, .ref z_spread, .int drawn, .int held, .int terms, .int widest, .int halvings, .int foundSigns])), (a_termsAt, .inl (cI, 256, .inl termsAt)), (a_numbers, .inl (cJ, 256, .inr (.inl numbers)))] → va_S A s.heap H locs → lv_has ls 6 [(0, .ref a_p0), (1, .int x1), (2, .long x2), (4, .int x4), (5, .int x5)] → W p l e (headSpec (Cond.code y_Pi_tally prog_2_method_5_code 6 (some .long) :: T0) rm_Pi_tally).room s m ([.ref a_p0, .int p1] : List Value).toArray below meth c H locs 0 0 Q (F0 m 60 ls []) := by
    intro k_8 hk_8
    intro x1 x2 x4 x5 terms widest termsAt H locs ls hf hP hD hS hl
    rw [b_Pi_tally_60] at hf
    obtain ⟨x5_6, e_x5_6⟩ : ∃ y : Int32, y = x5 + 1 := ⟨_, rfl⟩
    replace hf := nm_eq e_x5_6 hf
    refine lv_iinc (v := x5_6) (lv' := [(5, .int x5_6), (0, .ref a_p0), (1, .int x1), (2, .long x2), (4, .int x4)]) hx hb d_Pi_tally_60 hl (k := 4) rfl (by rw [e_x5_6]; rfl) (by decide) rfl (fun ls hl => ?_)
    refine lv_goto (tgt := 8) hx hb d_Pi_tally_63 (by decide) ?_
    exact hk_8 x1 x2 x4 x5_6 terms widest termsAt H locs ls hf hP hD hS (lv_sub hl [1, 2, 3, 4, 0] rfl)
  have B_8 : ∀ (n : Nat), ∀ (x1 : Int32) (x2 : Int64) (x4 : Int32) (x5 : Int32) (terms : Int32) (widest : Int32) (termsAt : Nat → Int32) (H : Heap) (locs : List Loc) (ls : Array Slot), b_Pi_tally_8 F held numbers n x1 x2 x4 x5 terms widest termsAt = some u → va_P (dC, dI) cls [(a_p0, .inr (0, [.ref z_flipsOf, .ref a_termsAt, .ref a_numbers, .ref z_spread, .int drawn, .int held, .int terms, .int widest, .int halvings, .int foundSigns])), (a_termsAt, .inl (cI, 256, .inl termsAt)), (a_numbers, .inl (cJ, 256, .inr (.inl numbers)))] H → va_D A [(a_p0, .inr (0, [.ref z_flipsOf, .ref a_termsAt, .ref a_numbers, .ref z_spread, .int drawn, .int held, .int terms, .int widest, .int halvings, .int foundSigns])), (a_termsAt, .inl (cI, 256, .inl termsAt)), (a_numbers, .inl (cJ, 256, .inr (.inl numbers)))] → va_S A s.heap H locs → lv_has ls 6 [(0, .ref a_p0), (1, .int x1), (2, .long x2), (4, .int x4), (5, .int x5)] → W p l e (headSpec (Cond.code y_Pi_tally prog_2_method_5_code 6 (some .long) :: T0) rm_Pi_tally).room s m ([.ref a_p0, .int p1] : List Value).toArray below meth c H locs 0 0 Q (F0 m 8 ls []) := by
    intro n
    induction n with
    | zero =>
      intro x1 x2 x4 x5 terms widest termsAt H locs ls hf hP hD hS hl
      exact no_fuel hf
    | succ n ih =>
      intro x1 x2 x4 x5 terms widest termsAt H locs ls hf hP hD hS hl
      rw [b_Pi_tally_8] at hf
      refine lv_iload hx hb d_Pi_tally_8 (lv_at hl 4 rfl) ?_
      refine lv_iload_n hx hb d_Pi_tally_10 rfl (lv_at hl 1 rfl) ?_
      refine lv_icmp_ge (tgt := 66) hx hb d_Pi_tally_11 (by decide) (fun c_1 => ?_) (fun c_1 => ?_)
      · replace hf := if_t c_1 hf
        refine lv_aload_n hx hb d_Pi_tally_66 rfl (lv_at hl 0 rfl) ?_
        refine va_get (D := (dC, dI)) (ci := 0) (v := .ref a_termsAt) (C := "FermionMaps$Picture") (T := F_Pi) (N := 10) hx hb ht0 i_Pi hown hK hP 0 rfl rfl 1 (by decide) (ht0 _ m_90) (fun _ h9 => h9) rfl d_Pi_tally_67 ?_
        refine lv_aload_n hx hb d_Pi_tally_70 rfl (lv_at hl 0 rfl) ?_
        refine va_get (D := (dC, dI)) (ci := 0) (v := .int held) (C := "FermionMaps$Picture") (T := F_Pi) (N := 10) hx hb ht0 i_Pi hown hK hP 0 rfl rfl 5 (by decide) (ht0 _ m_95) (fun _ h9 => h9) rfl d_Pi_tally_71 ?_
        refine lv_iload hx hb d_Pi_tally_74 (lv_at hl 3 rfl) ?_
        obtain ⟨hi_2, hf⟩ := ckI_ok hf
        refine va_iast hx hb hK hP hD hS 1 0 rfl rfl hi_2 d_Pi_tally_76 (fun H locs hP hD hS => ?_)
        have hP : va_P (dC, dI) cls [(a_p0, .inr (0, [.ref z_flipsOf, .ref a_termsAt, .ref a_numbers, .ref z_spread, .int drawn, .int held, .int terms, .int widest, .int halvings, .int foundSigns])), (a_termsAt, .inl (cI, 256, .inl (upd termsAt held.toNatClampNeg x4))), (a_numbers, .inl (cJ, 256, .inr (.inl numbers)))] H := hP
        have hD : va_D A [(a_p0, .inr (0, [.ref z_flipsOf, .ref a_termsAt, .ref a_numbers, .ref z_spread, .int drawn, .int held, .int terms, .int widest, .int halvings, .int foundSigns])), (a_termsAt, .inl (cI, 256, .inl (upd termsAt held.toNatClampNeg x4))), (a_numbers, .inl (cJ, 256, .inr (.inl numbers)))] := hD
        refine lv_aload_n hx hb d_Pi_tally_77 rfl (lv_at hl 0 rfl) ?_
        refine lv_dup hx hb d_Pi_tally_78 rfl ?_
        refine va_get (D := (dC, dI)) (ci := 0) (v := .int terms) (C := "FermionMaps$Picture") (T := F_Pi) (N := 10) hx hb ht0 i_Pi hown hK hP 0 rfl rfl 6 (by decide) (ht0 _ m_97) (fun _ h9 => h9) rfl d_Pi_tally_79 ?_
        refine lv_iload hx hb d_Pi_tally_82 (lv_at hl 3 rfl) ?_
        refine lv_iadd hx hb d_Pi_tally_84 ?_
        refine lv_topi (fun terms_3 e_terms_3 => ?_)
        replace hf := nm_eq e_terms_3 hf
        refine va_put (D := (dC, dI)) (ci := 0) (v := .int terms_3) (ty := .int) (C := "FermionMaps$Picture") (T := F_Pi) (N := 10) hx hb ht0 i_Pi t_Pi t_Pi_ok n_Pi hown hK hP hD hS 0 rfl rfl 6 (by decide) (ht0 _ m_97) (fun _ h9 => h9) rfl (by decide +kernel) rfl rfl (Nat.le_of_ble_eq_true rfl) d_Pi_tally_85 (fun H locs hP hD hS => ?_)
        have hP : va_P (dC, dI) cls [(a_p0, .inr (0, [.ref z_flipsOf, .ref a_termsAt, .ref a_numbers, .ref z_spread, .int drawn, .int held, .int terms_3, .int widest, .int halvings, .int foundSigns])), (a_termsAt, .inl (cI, 256, .inl (upd termsAt held.toNatClampNeg x4))), (a_numbers, .inl (cJ, 256, .inr (.inl numbers)))] H := hP
        have hD : va_D A [(a_p0, .inr (0, [.ref z_flipsOf, .ref a_termsAt, .ref a_numbers, .ref z_spread, .int drawn, .int held, .int terms_3, .int widest, .int halvings, .int foundSigns])), (a_termsAt, .inl (cI, 256, .inl (upd termsAt held.toNatClampNeg x4))), (a_numbers, .inl (cJ, 256, .inr (.inl numbers)))] := hD
        refine lv_lload_n hx hb d_Pi_tally_88 rfl (lv_at hl 2 rfl) ?_
        have hu := Option.some.inj hf
        subst hu
        exact rw_l hQ rfl rfl hP hD hK hS hx hb hr hlocks d_Pi_tally_89
      · replace hf := if_f c_1 hf
        refine lv_aload_n hx hb d_Pi_tally_14 rfl (lv_at hl 0 rfl) ?_
        refine va_get (D := (dC, dI)) (ci := 0) (v := .ref a_numbers) (C := "FermionMaps$Picture") (T := F_Pi) (N := 10) hx hb ht0 i_Pi hown hK hP 0 rfl rfl 2 (by decide) (ht0 _ m_91) (fun _ h9 => h9) rfl d_Pi_tally_15 ?_
        refine lv_iload hx hb d_Pi_tally_18 (lv_at hl 4 rfl) ?_
        obtain ⟨hi_4, hf⟩ := ckI_ok hf
        refine va_lald hx hb hK hP 2 1 rfl rfl hi_4 d_Pi_tally_20 ?_
        refine lv_lconst (v := 0) hx hb d_Pi_tally_21 (by decide) ?_
        refine W.lcmp hx hb d_Pi_tally_22 ?_
        refine lv_if_eq (tgt := 60) hx hb d_Pi_tally_23 (by decide) (fun c_5 => ?_) (fun c_5 => ?_)
        · replace hf := if_t c_5 hf
          exact B_60 (b_Pi_tally_8 F held numbers n) ih x1 x2 x4 x5 terms widest termsAt H locs ls hf hP hD hS (lv_sub hl [0, 1, 2, 3, 4] rfl)
        · replace hf := if_f c_5 hf
          refine lv_lload_n hx hb d_Pi_tally_26 rfl (lv_at hl 2 rfl) ?_
          refine lv_aload_n hx hb d_Pi_tally_27 rfl (lv_at hl 0 rfl) ?_
          refine va_get (D := (dC, dI)) (ci := 0) (v := .ref a_numbers) (C := "FermionMaps$Picture") (T := F_Pi) (N := 10) hx hb ht0 i_Pi hown hK hP 0 rfl rfl 2 (by decide) (ht0 _ m_91) (fun _ h9 => h9) rfl d_Pi_tally_28 ?_
          refine lv_iload hx hb d_Pi_tally_31 (lv_at hl 4 rfl) ?_
          obtain ⟨hi_7, hf⟩ := ckI_ok hf
          refine va_lald hx hb hK hP 2 1 rfl rfl hi_7 d_Pi_tally_33 ?_
          refine lv_lor hx hb d_Pi_tally_34 ?_
          refine lv_topl (fun x2_8 e_x2_8 => ?_)
          replace hf := nm_eq e_x2_8 hf
          refine lv_lstore_n (lv' := [(2, .long x2_8), (0, .ref a_p0), (1, .int x1), (4, .int x4), (5, .int x5)]) hx hb d_Pi_tally_35 rfl hl (by decide) rfl (fun ls hl => ?_)
          obtain ⟨x4_9, e_x4_9⟩ : ∃ y : Int32, y = x4 + 1 := ⟨_, rfl⟩
          replace hf := nm_eq e_x4_9 hf
          refine lv_iinc (v := x4_9) (lv' := [(4, .int x4_9), (2, .long x2_8), (0, .ref a_p0), (1, .int x1), (5, .int x5)]) hx hb d_Pi_tally_36 hl (k := 3) rfl (by rw [e_x4_9]; rfl) (by decide) rfl (fun ls hl => ?_)
          refine lv_aload_n hx hb d_Pi_tally_39 rfl (lv_at hl 2 rfl) ?_
          refine lv_aload_n hx hb d_Pi_tally_40 rfl (lv_at hl 2 rfl) ?_
          refine va_get (D := (dC, dI)) (ci := 0) (v := .int widest) (C := "FermionMaps$Picture") (T := F_Pi) (N := 10) hx hb ht0 i_Pi hown hK hP 0 rfl rfl 7 (by decide) (ht0 _ m_99) (fun _ h9 => h9) rfl d_Pi_tally_41 ?_
          refine lv_aload_n hx hb d_Pi_tally_44 rfl (lv_at hl 2 rfl) ?_
          refine va_get (D := (dC, dI)) (ci := 0) (v := .int held) (C := "FermionMaps$Picture") (T := F_Pi) (N := 10) hx hb ht0 i_Pi hown hK hP 0 rfl rfl 5 (by decide) (ht0 _ m_95) (fun _ h9 => h9) rfl d_Pi_tally_45 ?_
          refine lv_iload hx hb d_Pi_tally_48 (lv_at hl 4 rfl) ?_
          refine lv_ior hx hb d_Pi_tally_50 ?_
          obtain ⟨u_10, h_u_10, hf⟩ := bd hf
          refine rd_i (rdS_run (As := [.int (held ||| x5)]) (rest := [.int widest, .ref a_p0]) ⟨hx, hb, hml, hown, ht0⟩ (c_In_bitCount l dC dI cI cJ (held ||| x5) F u_10 h_u_10) (va_cwS 1 ht0 (gS m_303 m_203 m_7 m_204) rfl rfl rfl (by decide +kernel) ⟨Nat.le_of_ble_eq_true rfl, Nat.le_of_ble_eq_true rfl⟩) hK hNW hP [] rfl  rfl hl.1 rfl (Nat.le_of_ble_eq_true rfl) d_Pi_tally_51 ⟨Nat.zero_le _, Nat.zero_le _⟩) ?_
          refine va_mmax hx hb (hml.trans hl.1.symm) hown (ht0 _ m_308) (ht0 _ m_309) (ht0 _ m_6) (ht0 _ m_310) (Nat.le_of_ble_eq_true rfl) (Nat.le_of_ble_eq_true rfl) (Nat.zero_le _) (Nat.zero_le _) d_Pi_tally_54 ?_
          refine lv_topi (fun t_11 e_t_11 => ?_)
          replace hf := nm_eq e_t_11 hf
          refine va_put (D := (dC, dI)) (ci := 0) (v := .int t_11) (ty := .int) (C := "FermionMaps$Picture") (T := F_Pi) (N := 10) hx hb ht0 i_Pi t_Pi t_Pi_ok n_Pi hown hK hP hD hS 0 rfl rfl 7 (by decide) (ht0 _ m_99) (fun _ h9 => h9) rfl (by decide +kernel) rfl rfl (Nat.le_of_ble_eq_true rfl) d_Pi_tally_57 (fun H locs hP hD hS => ?_)
          have hP : va_P (dC, dI) cls [(a_p0, .inr (0, [.ref z_flipsOf, .ref a_termsAt, .ref a_numbers, .ref z_spread, .int drawn, .int held, .int terms, .int t_11, .int halvings, .int foundSigns])), (a_termsAt, .inl (cI, 256, .inl termsAt)), (a_numbers, .inl (cJ, 256, .inr (.inl numbers)))] H := hP
          have hD : va_D A [(a_p0, .inr (0, [.ref z_flipsOf, .ref a_termsAt, .ref a_numbers, .ref z_spread, .int drawn, .int held, .int terms, .int t_11, .int halvings, .int foundSigns])), (a_termsAt, .inl (cI, 256, .inl termsAt)), (a_numbers, .inl (cJ, 256, .inr (.inl numbers)))] := hD
          exact B_60 (b_Pi_tally_8 F held numbers n) ih x1 x2_8 x4_9 x5 terms t_11 termsAt H locs ls hf hP hD hS (lv_sub hl [2, 3, 1, 0, 4] rfl)
  rw [f_Pi_tally] at hf
  refine lv_lconst (v := 0) hx hb d_Pi_tally_0 (by decide) ?_
  refine lv_lstore_n (lv' := [(2, .long 0), (0, .ref a_p0), (1, .int p1)]) hx hb d_Pi_tally_1 rfl hl (by decide) rfl (fun ls hl => ?_)
  refine lv_iconst (v := 0) hx hb d_Pi_tally_2 (by decide) ?_
  refine lv_istore (lv' := [(4, .int 0), (2, .long 0), (0, .ref a_p0), (1, .int p1)]) hx hb d_Pi_tally_3 hl (by decide) rfl (fun ls hl => ?_)
  refine lv_iconst (v := 0) hx hb d_Pi_tally_5 (by decide) ?_
  refine lv_istore (lv' := [(5, .int 0), (4, .int 0), (2, .long 0), (0, .ref a_p0), (1, .int p1)]) hx hb d_Pi_tally_6 hl (by decide) rfl (fun ls hl => ?_)
  exact B_8 F p1 0 0 0 terms widest termsAt s.heap [] ls hf hP hD hS (lv_sub hl [3, 4, 2, 1, 0] rfl)

/-! FermionMaps$Picture.leastHalvings(JI)I -/
def b_Pi_leastHalvings_9 (F : Nat) : Nat → Int64 → Int32 → Int64 → Int32 → Option (Int32)
  | 0, _, _, _, _ => none
  | n + 1, x0, x2, x3, x5 =>
    if x2 ≤ x5 then
      some (x5)
    else
      if (lg_cmp ((x0 <<< (x5.toInt64 &&& 63)) &&& x3) 0) = 0 then
        some (x5)
      else
        nm (x5 + 1 : Int32) fun x5_4 =>
        b_Pi_leastHalvings_9 F n x0 x2 x3 x5_4
def f_Pi_leastHalvings (F : Nat) (p0 : Int64) (p2 : Int32) : Option (Int32) :=
  nm ((((1 : Int64) <<< (p2.toInt64 &&& 63)) - 1) : Int64) fun x3_1 =>
  b_Pi_leastHalvings_9 F F p0 p2 x3_1 0
abbrev rm_Pi_leastHalvings : Room := { frames := 0, cells := 0, slots := 0, locals := 0 }
set_option maxHeartbeats 4000000 in
set_option maxRecDepth 100000 in
theorem c_Pi_leastHalvings (l : Launch) (dC : Nat → ClassId) (dI : Nat → Nat → Nat) (cI cJ : ClassId) (p0 : Int64) (p2 : Int32) (F : Nat) (u : Int32) (hf : f_Pi_leastHalvings F p0 p2 = some u) : Met l y_Pi_leastHalvings (Cond.code y_Pi_leastHalvings prog_2_method_6_code 6 (some .int) :: T0) rm_Pi_leastHalvings (va_Pc [.long p0, .int p2] (Wr (dC, dI) [] [(cI, .int), (cJ, .long)])) (vp_Si (fun r => r = u)) 0 0 (fun _ => False) := by
  refine Met.ofW (cc := prog_2_method_6_code) (maxL := 6) (ret := (some .int)) (by decide) rfl ?_
  intro p e s m args below meth c s₁ B hml hv
  obtain ⟨rfl, hP, hK, hNW⟩ := hv
  have hx := B.exec
  have hb := B.bytes
  have hr := B.returns
  have hts := atoms_spec (ws := Cond.code y_Pi_leastHalvings prog_2_method_6_code 6 (some .int) :: T0) B.pre
  have ht0 : ∀ w ∈ T0, w.before ([.long p0, .int p2] : List Value).toArray s = true := fun w h => hts w (List.mem_cons_of_mem _ h)
  have hown : s.vm.findClass "FermionMaps$Picture" = some m.cls := findClass_of_methodNamed B.named
  have hlocks := B.notSynchronized
  have hl := lv_entry ([.long p0, .int p2]) (n := 6) (Nat.le_of_ble_eq_true rfl)
  rw [lg_entry_eq]
  generalize (lg_sl ([.long p0, .int p2]) ++ List.replicate (6 - (lg_sl ([.long p0, .int p2])).length) Slot.unset).toArray = ls at hl ⊢
  have hl : lv_has ls 6 [(0, .long p0), (2, .int p2)] := hl
  refine W.nameQ (fun Q hQ => ?_)
  have B_9 : ∀ (n : Nat), ∀ (x0 : Int64) (x2 : Int32) (x3 : Int64) (x5 : Int32) (ls : Array Slot), b_Pi_leastHalvings_9 F n x0 x2 x3 x5 = some u → lv_has ls 6 [(0, .long x0), (2, .int x2), (3, .long x3), (5, .int x5)] → W p l e (headSpec (Cond.code y_Pi_leastHalvings prog_2_method_6_code 6 (some .int) :: T0) rm_Pi_leastHalvings).room s m ([.long p0, .int p2] : List Value).toArray below meth c s.heap [] 0 0 Q (F0 m 9 ls []) := by
    intro n
    induction n with
    | zero =>
      intro x0 x2 x3 x5 ls hf hl
      exact no_fuel hf
    | succ n ih =>
      intro x0 x2 x3 x5 ls hf hl
      rw [b_Pi_leastHalvings_9] at hf
      refine lv_iload hx hb d_Pi_leastHalvings_9 (lv_at hl 3 rfl) ?_
      refine lv_iload_n hx hb d_Pi_leastHalvings_11 rfl (lv_at hl 1 rfl) ?_
      refine lv_icmp_ge (tgt := 32) hx hb d_Pi_leastHalvings_12 (by decide) (fun c_2 => ?_) (fun c_2 => ?_)
      · replace hf := if_t c_2 hf
        refine lv_iload hx hb d_Pi_leastHalvings_32 (lv_at hl 3 rfl) ?_
        have hu := Option.some.inj hf
        subst hu
        exact rt_i hQ rfl hx hb hr hlocks d_Pi_leastHalvings_34
      · replace hf := if_f c_2 hf
        refine lv_lload_n hx hb d_Pi_leastHalvings_15 rfl (lv_at hl 0 rfl) ?_
        refine lv_iload hx hb d_Pi_leastHalvings_16 (lv_at hl 3 rfl) ?_
        refine lv_lshl (v := (x0 <<< (x5.toInt64 &&& 63))) hx hb d_Pi_leastHalvings_18 rfl ?_
        refine lv_lload_n hx hb d_Pi_leastHalvings_19 rfl (lv_at hl 2 rfl) ?_
        refine lv_land hx hb d_Pi_leastHalvings_20 ?_
        refine lv_lconst (v := 0) hx hb d_Pi_leastHalvings_21 (by decide) ?_
        refine W.lcmp hx hb d_Pi_leastHalvings_22 ?_
        refine lv_if_eq (tgt := 32) hx hb d_Pi_leastHalvings_23 (by decide) (fun c_3 => ?_) (fun c_3 => ?_)
        · replace hf := if_t c_3 hf
          refine lv_iload hx hb d_Pi_leastHalvings_32 (lv_at hl 3 rfl) ?_
          have hu := Option.some.inj hf
          subst hu
          exact rt_i hQ rfl hx hb hr hlocks d_Pi_leastHalvings_34
        · replace hf := if_f c_3 hf
          obtain ⟨x5_4, e_x5_4⟩ : ∃ y : Int32, y = x5 + 1 := ⟨_, rfl⟩
          replace hf := nm_eq e_x5_4 hf
          refine lv_iinc (v := x5_4) (lv' := [(5, .int x5_4), (0, .long x0), (2, .int x2), (3, .long x3)]) hx hb d_Pi_leastHalvings_26 hl (k := 3) rfl (by rw [e_x5_4]; rfl) (by decide) rfl (fun ls hl => ?_)
          refine lv_goto (tgt := 9) hx hb d_Pi_leastHalvings_29 (by decide) ?_
          exact ih x0 x2 x3 x5_4 ls hf (lv_sub hl [1, 2, 3, 0] rfl)
  rw [f_Pi_leastHalvings] at hf
  refine lv_lconst (v := 1) hx hb d_Pi_leastHalvings_0 (by decide) ?_
  refine lv_iload_n hx hb d_Pi_leastHalvings_1 rfl (lv_at hl 1 rfl) ?_
  refine lv_lshl (v := ((1 : Int64) <<< (p2.toInt64 &&& 63))) hx hb d_Pi_leastHalvings_2 rfl ?_
  refine lv_lconst (v := 1) hx hb d_Pi_leastHalvings_3 (by decide) ?_
  refine lv_lsub hx hb d_Pi_leastHalvings_4 ?_
  refine lv_topl (fun x3_1 e_x3_1 => ?_)
  replace hf := nm_eq e_x3_1 hf
  refine lv_lstore_n (lv' := [(3, .long x3_1), (0, .long p0), (2, .int p2)]) hx hb d_Pi_leastHalvings_5 rfl hl (by decide) rfl (fun ls hl => ?_)
  refine lv_iconst (v := 0) hx hb d_Pi_leastHalvings_6 (by decide) ?_
  refine lv_istore (lv' := [(5, .int 0), (3, .long x3_1), (0, .long p0), (2, .int p2)]) hx hb d_Pi_leastHalvings_7 hl (by decide) rfl (fun ls hl => ?_)
  exact B_9 F p0 p2 x3_1 0 ls hf (lv_sub hl [2, 3, 1, 0] rfl)

/-! FermionMaps$Picture.draw(LFermionMaps$Sum;LFermionMaps$Wiring;)V -/
def b_Pi_draw_71 (F : Nat) (k_37 : Int32 → Int64 → Int32 → Int32 → Int32 → Int32 → Int32 → Int32 → (Nat → Int32) → (Nat → Int32) → (Nat → Int64) → (Nat → Int32) → Option (Int32 × Int32 × Int32 × Int32 × Int32 × (Nat → Int32) × (Nat → Int32) × (Nat → Int64) × (Nat → Int32))) (count1 : Int32) (keys1 : Nat → Int32) (numbers1 : Nat → Int32) (size2 : Int32) (rows2 : Nat → Int32) (back2 : Nat → Int32) (x3 : Int32) (x4 : Int64) (x6 : Int32) (drawn : Int32) (held : Int32) (terms : Int32) (widest : Int32) (halvings : Int32) (flipsOf : Nat → Int32) (termsAt : Nat → Int32) (numbers : Nat → Int64) (spread : Nat → Int32) : Option (Int32 × Int32 × Int32 × Int32 × Int32 × (Nat → Int32) × (Nat → Int32) × (Nat → Int64) × (Nat → Int32)) :=
  nm (x6 + 1 : Int32) fun x6_8 =>
  k_37 x3 x4 x6_8 drawn held terms widest halvings flipsOf termsAt numbers spread
def b_Pi_draw_37 (F : Nat) (count1 : Int32) (keys1 : Nat → Int32) (numbers1 : Nat → Int32) (size2 : Int32) (rows2 : Nat → Int32) (back2 : Nat → Int32) : Nat → Int32 → Int64 → Int32 → Int32 → Int32 → Int32 → Int32 → Int32 → (Nat → Int32) → (Nat → Int32) → (Nat → Int64) → (Nat → Int32) → Option (Int32 × Int32 × Int32 × Int32 × Int32 × (Nat → Int32) × (Nat → Int32) × (Nat → Int64) × (Nat → Int32))
  | 0, _, _, _, _, _, _, _, _, _, _, _, _ => none
  | n + 1, x3, x4, x6, drawn, held, terms, widest, halvings, flipsOf, termsAt, numbers, spread =>
    if x3 ≤ x6 then
      (f_Pi_leastHalvings F x4 size2).bind fun u_5 =>
      some (1, held, terms, widest, u_5, flipsOf, termsAt, numbers, spread)
    else
      ckI x6 256 <|
      if (termsAt x6.toNatClampNeg) = 0 then
        b_Pi_draw_71 F (b_Pi_draw_37 F count1 keys1 numbers1 size2 rows2 back2 n) count1 keys1 numbers1 size2 rows2 back2 x3 x4 x6 drawn held terms widest halvings flipsOf termsAt numbers spread
      else
        (f_Pi_hold F held flipsOf numbers spread count1 keys1 numbers1 size2 back2 x6).bind fun u_9 =>
        (f_Pi_tally F u_9.1 terms widest termsAt u_9.2.1 x3).bind fun u_10 =>
        nm ((x4 ||| u_10.1) : Int64) fun x4_11 =>
        b_Pi_draw_71 F (b_Pi_draw_37 F count1 keys1 numbers1 size2 rows2 back2 n) count1 keys1 numbers1 size2 rows2 back2 x3 x4_11 x6 drawn u_9.1 u_10.2.1 u_10.2.2.1 halvings flipsOf u_10.2.2.2 u_9.2.1 u_9.2.2
def f_Pi_draw (F : Nat) (drawn : Int32) (held : Int32) (terms : Int32) (widest : Int32) (halvings : Int32) (flipsOf : Nat → Int32) (termsAt : Nat → Int32) (numbers : Nat → Int64) (spread : Nat → Int32) (count1 : Int32) (keys1 : Nat → Int32) (numbers1 : Nat → Int32) (size2 : Int32) (rows2 : Nat → Int32) (back2 : Nat → Int32) : Option (Int32 × Int32 × Int32 × Int32 × Int32 × (Nat → Int32) × (Nat → Int32) × (Nat → Int64) × (Nat → Int32)) :=
  if drawn = 0 then
    (f_Pi_markFlips F flipsOf termsAt count1 keys1 size2 rows2).bind fun u_2 =>
    nm (((1 : Int32) <<< (size2 &&& 31)) : Int32) fun x3_3 =>
    b_Pi_draw_37 F count1 keys1 numbers1 size2 rows2 back2 F x3_3 0 0 drawn held 0 0 halvings u_2.1 u_2.2 numbers spread
  else
    some (drawn, held, terms, widest, halvings, flipsOf, termsAt, numbers, spread)
abbrev rm_Pi_draw : Room := { frames := 5, cells := 0, slots := 0, locals := 116 }
set_option maxHeartbeats 4000000 in
set_option maxRecDepth 100000 in
theorem c_Pi_draw (l : Launch) (dC : Nat → ClassId) (dI : Nat → Nat → Nat) (cI cJ : ClassId) (a_p0 a_flipsOf a_termsAt a_numbers a_spread a_p1 a_keys1 a_numbers1 a_p2 a_rows2 a_back2 z_spareKeys1 z_spareNumbers1 z_told2 z_spareBack2 z_left2 : Nat) (sz : Nat) (drawn : Int32) (held : Int32) (terms : Int32) (widest : Int32) (halvings : Int32) (foundSigns : Int32) (flipsOf : Nat → Int32) (termsAt : Nat → Int32) (numbers : Nat → Int64) (spread : Nat → Int32) (count1 : Int32) (keys1 : Nat → Int32) (numbers1 : Nat → Int32) (size2 : Int32) (kind2 : Int32) (rows2 : Nat → Int32) (back2 : Nat → Int32) (F : Nat) (u : Int32 × Int32 × Int32 × Int32 × Int32 × (Nat → Int32) × (Nat → Int32) × (Nat → Int64) × (Nat → Int32)) (hf : f_Pi_draw F drawn held terms widest halvings flipsOf termsAt numbers spread count1 keys1 numbers1 size2 rows2 back2 = some u) : Met l y_Pi_draw (Cond.code y_Pi_draw prog_2_method_2_code 7 none :: T0) rm_Pi_draw (va_Pc [.ref a_p0, .ref a_p1, .ref a_p2] (Ww (dC, dI) [(a_p0, .inr (0, [.ref a_flipsOf, .ref a_termsAt, .ref a_numbers, .ref a_spread, .int drawn, .int held, .int terms, .int widest, .int halvings, .int foundSigns])), (a_flipsOf, .inl (cI, 60, .inl flipsOf)), (a_termsAt, .inl (cI, 256, .inl termsAt)), (a_numbers, .inl (cJ, 256, .inr (.inl numbers))), (a_spread, .inl (cI, 256, .inl spread)), (a_p1, .inr (1, [.ref a_keys1, .ref a_numbers1, .ref z_spareKeys1, .ref z_spareNumbers1, .int count1])), (a_keys1, .inl (cI, 60, .inl keys1)), (a_numbers1, .inl (cI, 60, .inl numbers1)), (a_p2, .inr (2, [.ref z_told2, .ref a_rows2, .ref a_back2, .ref z_spareBack2, .ref z_left2, .int size2, .int kind2])), (a_rows2, .inl (cI, 8, .inl rows2)), (a_back2, .inl (cI, 8, .inl back2))] [(cI, .int), (cJ, .long)] sz)) (va_Qv (fun _ : Unit => True) (Bw (dC, dI) [(cI, .int), (cJ, .long)] (va_A [(a_p0, .inr (0, [.ref a_flipsOf, .ref a_termsAt, .ref a_numbers, .ref a_spread, .int drawn, .int held, .int terms, .int widest, .int halvings, .int foundSigns])), (a_flipsOf, .inl (cI, 60, .inl flipsOf)), (a_termsAt, .inl (cI, 256, .inl termsAt)), (a_numbers, .inl (cJ, 256, .inr (.inl numbers))), (a_spread, .inl (cI, 256, .inl spread)), (a_p1, .inr (1, [.ref a_keys1, .ref a_numbers1, .ref z_spareKeys1, .ref z_spareNumbers1, .int count1])), (a_keys1, .inl (cI, 60, .inl keys1)), (a_numbers1, .inl (cI, 60, .inl numbers1)), (a_p2, .inr (2, [.ref z_told2, .ref a_rows2, .ref a_back2, .ref z_spareBack2, .ref z_left2, .int size2, .int kind2])), (a_rows2, .inl (cI, 8, .inl rows2)), (a_back2, .inl (cI, 8, .inl back2))] sz) (fun w1 => w1 = [(a_p0, .inr (0, [.ref a_flipsOf, .ref a_termsAt, .ref a_numbers, .ref a_spread, .int u.1, .int u.2.1, .int u.2.2.1, .int u.2.2.2.1, .int u.2.2.2.2.1, .int foundSigns])), (a_flipsOf, .inl (cI, 60, .inl u.2.2.2.2.2.1)), (a_termsAt, .inl (cI, 256, .inl u.2.2.2.2.2.2.1)), (a_numbers, .inl (cJ, 256, .inr (.inl u.2.2.2.2.2.2.2.1))), (a_spread, .inl (cI, 256, .inl u.2.2.2.2.2.2.2.2)), (a_p1, .inr (1, [.ref a_keys1, .ref a_numbers1, .ref z_spareKeys1, .ref z_spareNumbers1, .int count1])), (a_keys1, .inl (cI, 60, .inl keys1)), (a_numbers1, .inl (cI, 60, .inl numbers1)), (a_p2, .inr (2, [.ref z_told2, .ref a_rows2, .ref a_back2, .ref z_spareBack2, .ref z_left2, .int size2, .int kind2])), (a_rows2, .inl (cI, 8, .inl rows2)), (a_back2, .inl (cI, 8, .inl back2))])) (va_A [(a_p0, .inr (0, [.ref a_flipsOf, .ref a_termsAt, .ref a_numbers, .ref a_spread, .int drawn, .int held, .int terms, .int widest, .int halvings, .int foundSigns])), (a_flipsOf, .inl (cI, 60, .inl flipsOf)), (a_termsAt, .inl (cI, 256, .inl termsAt)), (a_numbers, .inl (cJ, 256, .inr (.inl numbers))), (a_spread, .inl (cI, 256, .inl spread)), (a_p1, .inr (1, [.ref a_keys1, .ref a_numbers1, .ref z_spareKeys1, .ref z_spareNumbers1, .int count1])), (a_keys1, .inl (cI, 60, .inl keys1)), (a_numbers1, .inl (cI, 60, .inl numbers1)), (a_p2, .inr (2, [.ref z_told2, .ref a_rows2, .ref a_back2, .ref z_spareBack2, .ref z_left2, .int size2, .int kind2])), (a_rows2, .inl (cI, 8, .inl rows2)), (a_back2, .inl (cI, 8, .inl back2))] sz)) 0 0 (va_A [(a_p0, .inr (0, [.ref a_flipsOf, .ref a_termsAt, .ref a_numbers, .ref a_spread, .int drawn, .int held, .int terms, .int widest, .int halvings, .int foundSigns])), (a_flipsOf, .inl (cI, 60, .inl flipsOf)), (a_termsAt, .inl (cI, 256, .inl termsAt)), (a_numbers, .inl (cJ, 256, .inr (.inl numbers))), (a_spread, .inl (cI, 256, .inl spread)), (a_p1, .inr (1, [.ref a_keys1, .ref a_numbers1, .ref z_spareKeys1, .ref z_spareNumbers1, .int count1])), (a_keys1, .inl (cI, 60, .inl keys1)), (a_numbers1, .inl (cI, 60, .inl numbers1)), (a_p2, .inr (2, [.ref z_told2, .ref a_rows2, .ref a_back2, .ref z_spareBack2, .ref z_left2, .int size2, .int kind2])), (a_rows2, .inl (cI, 8, .inl rows2)), (a_back2, .inl (cI, 8, .inl back2))] sz) := by
  refine Met.ofW (cc := prog_2_method_2_code) (maxL := 7) (ret := none) (by decide) rfl ?_
  intro p e s m args below meth c s₁ B hml hv
  obtain ⟨rfl, hsz, hP, hK, hD0, hNW⟩ := hv
  have hx := B.exec
  have hb := B.bytes
  have hr := B.returns
  have hts := atoms_spec (ws := Cond.code y_Pi_draw prog_2_method_2_code 7 none :: T0) B.pre
  have ht0 : ∀ w ∈ T0, w.before ([.ref a_p0, .ref a_p1, .ref a_p2] : List Value).toArray s = true := fun w h => hts w (List.mem_cons_of_mem _ h)
  have hown : s.vm.findClass "FermionMaps$Picture" = some m.cls := findClass_of_methodNamed B.named
  have hlocks := B.notSynchronized
  subst hsz
  have hD := hD0.self (sz := s.heap.size)
  generalize hAe : va_A [(a_p0, .inr (0, [.ref a_flipsOf, .ref a_termsAt, .ref a_numbers, .ref a_spread, .int drawn, .int held, .int terms, .int widest, .int halvings, .int foundSigns])), (a_flipsOf, .inl (cI, 60, .inl flipsOf)), (a_termsAt, .inl (cI, 256, .inl termsAt)), (a_numbers, .inl (cJ, 256, .inr (.inl numbers))), (a_spread, .inl (cI, 256, .inl spread)), (a_p1, .inr (1, [.ref a_keys1, .ref a_numbers1, .ref z_spareKeys1, .ref z_spareNumbers1, .int count1])), (a_keys1, .inl (cI, 60, .inl keys1)), (a_numbers1, .inl (cI, 60, .inl numbers1)), (a_p2, .inr (2, [.ref z_told2, .ref a_rows2, .ref a_back2, .ref z_spareBack2, .ref z_left2, .int size2, .int kind2])), (a_rows2, .inl (cI, 8, .inl rows2)), (a_back2, .inl (cI, 8, .inl back2))] s.heap.size = A at hD ⊢
  have hA : ∀ q : Nat, s.heap.size ≤ q → A q := fun q h => by rw [← hAe]; exact Or.inr h
  have hS : va_S A s.heap s.heap [] := va_S.rf
  have hl := lv_entry ([.ref a_p0, .ref a_p1, .ref a_p2]) (n := 7) (Nat.le_of_ble_eq_true rfl)
  rw [lg_entry_eq]
  generalize (lg_sl ([.ref a_p0, .ref a_p1, .ref a_p2]) ++ List.replicate (7 - (lg_sl ([.ref a_p0, .ref a_p1, .ref a_p2])).length) Slot.unset).toArray = ls at hl ⊢
  have hl : lv_has ls 7 [(0, .ref a_p0), (1, .ref a_p1), (2, .ref a_p2)] := hl
  refine W.nameQ (fun Q hQ => ?_)
  have B_71 : ∀ (k_37 : Int32 → Int64 → Int32 → Int32 → Int32 → Int32 → Int32 → Int32 → (Nat → Int32) → (Nat → Int32) → (Nat → Int64) → (Nat → Int32) → Option (Int32 × Int32 × Int32 × Int32 × Int32 × (Nat → Int32) × (Nat → Int32) × (Nat → Int64) × (Nat → Int32))) (hk_37 : ∀ (x3 : Int32) (x4 : Int64) (x6 : Int32) (drawn : Int32) (held : Int32) (terms : Int32) (widest : Int32) (halvings : Int32) (flipsOf : Nat → Int32) (termsAt : Nat → Int32) (numbers : Nat → Int64) (spread : Nat → Int32) (H : Heap) (locs : List Loc) (ls : Array Slot), k_37 x3 x4 x6 drawn held terms widest halvings flipsOf termsAt numbers spread = some u → va_P (dC, dI) cls [(a_p0, .inr (0, [.ref a_flipsOf, .ref a_termsAt, .ref a_numbers, .ref a_spread, .int drawn, .int held, .int terms, .int widest, .int halvings, .int foundSigns])), (a_flipsOf, .inl (cI, 60, .inl flipsOf)), (a_termsAt, .inl (cI, 256, .inl termsAt)), (a_numbers, .inl (cJ, 256, .inr (.inl numbers))), (a_spread, .inl (cI, 256, .inl spread)), (a_p1, .inr (1, [.ref a_keys1, .ref a_numbers1, .ref z_spareKeys1, .ref z_spareNumbers1, .int count1])), (a_keys1, .inl (cI, 60, .inl keys1)), (a_numbers1, .inl (cI, 60, .inl numbers1)), (a_p2, .inr (2, [.ref z_told2, .ref a_rows2, .ref a_back2, .ref z_spareBack2, .ref z_left2, .int size2, .int kind2])), (a_rows2, .inl (cI, 8, .inl rows2)), (a_back2, .inl (cI, 8, .inl back2))] H → va_D A [(a_p0, .inr (0, [.ref a_flipsOf, .ref a_termsAt, .ref a_numbers, .ref a_spread, .int drawn, .int held, .int terms, .int widest, .int halvings, .int foundSigns])), (a_flipsOf, .inl (cI, 60, .inl flipsOf)), (a_termsAt, .inl (cI, 256, .inl termsAt)), (a_numbers, .inl (cJ, 256, .inr (.inl numbers))), (a_spread, .inl (cI, 256, .inl spread)), (a_p1, .inr (1, [.ref a_keys1, .ref a_numbers1, .ref z_spareKeys1, .ref z_spareNumbers1, .int count1])), (a_keys1, .inl (cI, 60, .inl keys1)), (a_numbers1, .inl (cI, 60, .inl numbers1)), (a_p2, .inr (2, [.ref z_told2, .ref a_rows2, .ref a_back2, .ref z_spareBack2, .ref z_left2, .int size2, .int kind2])), (a_rows2, .inl (cI, 8, .inl rows2)), (a_back2, .inl (cI, 8, .inl back2))] → va_S A s.heap H locs → lv_has ls 7 [(0, .ref a_p0), (1, .ref a_p1), (2, .ref a_p2), (3, .int x3), (4, .long x4), (6, .int x6)] → W p l e (headSpec (Cond.code y_Pi_draw prog_2_method_2_code 7 none :: T0) rm_Pi_draw).room s m ([.ref a_p0, .ref a_p1, .ref a_p2] : List Value).toArray below meth c H locs 0 0 Q (F0 m 37 ls [])), ∀ (x3 : Int32) (x4 : Int64) (x6 : Int32) (drawn : Int32) (held : Int32) (terms : Int32) (widest : Int32) (halvings : Int32) (flipsOf : Nat → Int32) (termsAt : Nat → Int32) (numbers : Nat → Int64) (spread : Nat → Int32) (H : Heap) (locs : List Loc) (ls : Array Slot), b_Pi_draw_71 F k_37 count1 keys1 numbers1 size2 rows2 back2 x3 x4 x6 drawn held terms widest halvings flipsOf termsAt numbers spread = some u → va_P (dC, dI) cls [(a_p0, .inr (0, [.ref a_flipsOf, .ref a_termsAt, .ref a_numbers, .ref a_spread, .int drawn, .int held, .int terms, .int widest, .int halvings, .int foundSigns])), (a_flipsOf, .inl (cI, 60, .inl flipsOf)), (a_termsAt, .inl (cI, 256, .inl termsAt)), (a_numbers, .inl (cJ, 256, .inr (.inl numbers))), (a_spread, .inl (cI, 256, .inl spread)), (a_p1, .inr (1, [.ref a_keys1, .ref a_numbers1, .ref z_spareKeys1, .ref z_spareNumbers1, .int count1])), (a_keys1, .inl (cI, 60, .inl keys1)), (a_numbers1, .inl (cI, 60, .inl numbers1)), (a_p2, .inr (2, [.ref z_told2, .ref a_rows2, .ref a_back2, .ref z_spareBack2, .ref z_left2, .int size2, .int kind2])), (a_rows2, .inl (cI, 8, .inl rows2)), (a_back2, .inl (cI, 8, .inl back2))] H → va_D A [(a_p0, .inr (0, [.ref a_flipsOf, .ref a_termsAt, .ref a_numbers, .ref a_spread, .int drawn, .int held, .int terms, .int widest, .int halvings, .int foundSigns])), (a_flipsOf, .inl (cI, 60, .inl flipsOf)), (a_termsAt, .inl (cI, 256, .inl termsAt)), (a_numbers, .inl (cJ, 256, .inr (.inl numbers))), (a_spread, .inl (cI, 256, .inl spread)), (a_p1, .inr (1, [.ref a_keys1, .ref a_numbers1, .ref z_spareKeys1, .ref z_spareNumbers1, .int count1])), (a_keys1, .inl (cI, 60, .inl keys1)), (a_numbers1, .inl (cI, 60, .inl numbers1)), (a_p2, .inr (2, [.ref z_told2, .ref a_rows2, .ref a_back2, .ref z_spareBack2, .ref z_left2, .int size2, .int kind2])), (a_rows2, .inl (cI, 8, .inl rows2)), (a_back2, .inl (cI, 8, .inl back2))] → va_S A s.heap H locs → lv_has ls 7 [(0, .ref a_p0), (1, .ref a_p1), (2, .ref a_p2), (3, .int x3), (4, .long x4), (6, .int x6)] → W p l e (headSpec (Cond.code y_Pi_draw prog_2_method_2_code 7 none :: T0) rm_Pi_draw).room s m ([.ref a_p0, .ref a_p1, .ref a_p2] : List Value).toArray below meth c H locs 0 0 Q (F0 m 71 ls []) := by
    intro k_37 hk_37
    intro x3 x4 x6 drawn held terms widest halvings flipsOf termsAt numbers spread H locs ls hf hP hD hS hl
    rw [b_Pi_draw_71] at hf
    obtain ⟨x6_8, e_x6_8⟩ : ∃ y : Int32, y = x6 + 1 := ⟨_, rfl⟩
    replace hf := nm_eq e_x6_8 hf
    refine lv_iinc (v := x6_8) (lv' := [(6, .int x6_8), (0, .ref a_p0), (1, .ref a_p1), (2, .ref a_p2), (3, .int x3), (4, .long x4)]) hx hb d_Pi_draw_71 hl (k := 5) rfl (by rw [e_x6_8]; rfl) (by decide) rfl (fun ls hl => ?_)
    refine lv_goto (tgt := 37) hx hb d_Pi_draw_74 (by decide) ?_
    exact hk_37 x3 x4 x6_8 drawn held terms widest halvings flipsOf termsAt numbers spread H locs ls hf hP hD hS (lv_sub hl [1, 2, 3, 4, 5, 0] rfl)
  have B_37 : ∀ (n : Nat), ∀ (x3 : Int32) (x4 : Int64) (x6 : Int32) (drawn : Int32) (held : Int32) (terms : Int32) (widest : Int32) (halvings : Int32) (flipsOf : Nat → Int32) (termsAt : Nat → Int32) (numbers : Nat → Int64) (spread : Nat → Int32) (H : Heap) (locs : List Loc) (ls : Array Slot), b_Pi_draw_37 F count1 keys1 numbers1 size2 rows2 back2 n x3 x4 x6 drawn held terms widest halvings flipsOf termsAt numbers spread = some u → va_P (dC, dI) cls [(a_p0, .inr (0, [.ref a_flipsOf, .ref a_termsAt, .ref a_numbers, .ref a_spread, .int drawn, .int held, .int terms, .int widest, .int halvings, .int foundSigns])), (a_flipsOf, .inl (cI, 60, .inl flipsOf)), (a_termsAt, .inl (cI, 256, .inl termsAt)), (a_numbers, .inl (cJ, 256, .inr (.inl numbers))), (a_spread, .inl (cI, 256, .inl spread)), (a_p1, .inr (1, [.ref a_keys1, .ref a_numbers1, .ref z_spareKeys1, .ref z_spareNumbers1, .int count1])), (a_keys1, .inl (cI, 60, .inl keys1)), (a_numbers1, .inl (cI, 60, .inl numbers1)), (a_p2, .inr (2, [.ref z_told2, .ref a_rows2, .ref a_back2, .ref z_spareBack2, .ref z_left2, .int size2, .int kind2])), (a_rows2, .inl (cI, 8, .inl rows2)), (a_back2, .inl (cI, 8, .inl back2))] H → va_D A [(a_p0, .inr (0, [.ref a_flipsOf, .ref a_termsAt, .ref a_numbers, .ref a_spread, .int drawn, .int held, .int terms, .int widest, .int halvings, .int foundSigns])), (a_flipsOf, .inl (cI, 60, .inl flipsOf)), (a_termsAt, .inl (cI, 256, .inl termsAt)), (a_numbers, .inl (cJ, 256, .inr (.inl numbers))), (a_spread, .inl (cI, 256, .inl spread)), (a_p1, .inr (1, [.ref a_keys1, .ref a_numbers1, .ref z_spareKeys1, .ref z_spareNumbers1, .int count1])), (a_keys1, .inl (cI, 60, .inl keys1)), (a_numbers1, .inl (cI, 60, .inl numbers1)), (a_p2, .inr (2, [.ref z_told2, .ref a_rows2, .ref a_back2, .ref z_spareBack2, .ref z_left2, .int size2, .int kind2])), (a_rows2, .inl (cI, 8, .inl rows2)), (a_back2, .inl (cI, 8, .inl back2))] → va_S A s.heap H locs → lv_has ls 7 [(0, .ref a_p0), (1, .ref a_p1), (2, .ref a_p2), (3, .int x3), (4, .long x4), (6, .int x6)] → W p l e (headSpec (Cond.code y_Pi_draw prog_2_method_2_code 7 none :: T0) rm_Pi_draw).room s m ([.ref a_p0, .ref a_p1, .ref a_p2] : List Value).toArray below meth c H locs 0 0 Q (F0 m 37 ls []) := by
    intro n
    induction n with
    | zero =>
      intro x3 x4 x6 drawn held terms widest halvings flipsOf termsAt numbers spread H locs ls hf hP hD hS hl
      exact no_fuel hf
    | succ n ih =>
      intro x3 x4 x6 drawn held terms widest halvings flipsOf termsAt numbers spread H locs ls hf hP hD hS hl
      rw [b_Pi_draw_37] at hf
      refine lv_iload hx hb d_Pi_draw_37 (lv_at hl 5 rfl) ?_
      refine lv_iload_n hx hb d_Pi_draw_39 rfl (lv_at hl 3 rfl) ?_
      refine lv_icmp_ge (tgt := 77) hx hb d_Pi_draw_40 (by decide) (fun c_4 => ?_) (fun c_4 => ?_)
      · replace hf := if_t c_4 hf
        refine lv_aload_n hx hb d_Pi_draw_77 rfl (lv_at hl 0 rfl) ?_
        refine lv_lload hx hb d_Pi_draw_78 (lv_at hl 4 rfl) ?_
        refine lv_aload_n hx hb d_Pi_draw_80 rfl (lv_at hl 2 rfl) ?_
        refine va_get (D := (dC, dI)) (ci := 2) (v := .int size2) (C := "FermionMaps$Wiring") (T := F_Wi) (N := 7) hx hb ht0 i_Wi hown hK hP 8 rfl rfl 5 (by decide) (ht0 _ m_64) (fun _ h9 => h9) rfl d_Pi_draw_81 ?_
        obtain ⟨u_5, h_u_5, hf⟩ := bd hf
        refine rd_i (rdS_run (As := [.long x4, .int size2]) (rest := [.ref a_p0]) ⟨hx, hb, hml, hown, ht0⟩ (c_Pi_leastHalvings l dC dI cI cJ x4 size2 F u_5 h_u_5) (va_cwS 2 ht0 (gS m_311 m_312 m_4 m_313) rfl rfl rfl (by decide +kernel) ⟨Nat.le_of_ble_eq_true rfl, Nat.le_of_ble_eq_true rfl⟩) hK hNW hP [] rfl  rfl hl.1 rfl (Nat.le_of_ble_eq_true rfl) d_Pi_draw_84 ⟨Nat.zero_le _, Nat.zero_le _⟩) ?_
        refine va_put (D := (dC, dI)) (ci := 0) (v := .int u_5) (ty := .int) (C := "FermionMaps$Picture") (T := F_Pi) (N := 10) hx hb ht0 i_Pi t_Pi t_Pi_ok n_Pi hown hK hP hD hS 0 rfl rfl 8 (by decide) (ht0 _ m_101) (fun _ h9 => h9) rfl (by decide +kernel) rfl rfl (Nat.le_of_ble_eq_true rfl) d_Pi_draw_87 (fun H locs hP hD hS => ?_)
        have hP : va_P (dC, dI) cls [(a_p0, .inr (0, [.ref a_flipsOf, .ref a_termsAt, .ref a_numbers, .ref a_spread, .int drawn, .int held, .int terms, .int widest, .int u_5, .int foundSigns])), (a_flipsOf, .inl (cI, 60, .inl flipsOf)), (a_termsAt, .inl (cI, 256, .inl termsAt)), (a_numbers, .inl (cJ, 256, .inr (.inl numbers))), (a_spread, .inl (cI, 256, .inl spread)), (a_p1, .inr (1, [.ref a_keys1, .ref a_numbers1, .ref z_spareKeys1, .ref z_spareNumbers1, .int count1])), (a_keys1, .inl (cI, 60, .inl keys1)), (a_numbers1, .inl (cI, 60, .inl numbers1)), (a_p2, .inr (2, [.ref z_told2, .ref a_rows2, .ref a_back2, .ref z_spareBack2, .ref z_left2, .int size2, .int kind2])), (a_rows2, .inl (cI, 8, .inl rows2)), (a_back2, .inl (cI, 8, .inl back2))] H := hP
        have hD : va_D A [(a_p0, .inr (0, [.ref a_flipsOf, .ref a_termsAt, .ref a_numbers, .ref a_spread, .int drawn, .int held, .int terms, .int widest, .int u_5, .int foundSigns])), (a_flipsOf, .inl (cI, 60, .inl flipsOf)), (a_termsAt, .inl (cI, 256, .inl termsAt)), (a_numbers, .inl (cJ, 256, .inr (.inl numbers))), (a_spread, .inl (cI, 256, .inl spread)), (a_p1, .inr (1, [.ref a_keys1, .ref a_numbers1, .ref z_spareKeys1, .ref z_spareNumbers1, .int count1])), (a_keys1, .inl (cI, 60, .inl keys1)), (a_numbers1, .inl (cI, 60, .inl numbers1)), (a_p2, .inr (2, [.ref z_told2, .ref a_rows2, .ref a_back2, .ref z_spareBack2, .ref z_left2, .int size2, .int kind2])), (a_rows2, .inl (cI, 8, .inl rows2)), (a_back2, .inl (cI, 8, .inl back2))] := hD
        refine lv_aload_n hx hb d_Pi_draw_90 rfl (lv_at hl 0 rfl) ?_
        refine lv_iconst (v := 1) hx hb d_Pi_draw_91 (by decide) ?_
        refine va_put (D := (dC, dI)) (ci := 0) (v := .int 1) (ty := .boolean) (C := "FermionMaps$Picture") (T := F_Pi) (N := 10) hx hb ht0 i_Pi t_Pi t_Pi_ok n_Pi hown hK hP hD hS 0 rfl rfl 4 (by decide) (ht0 _ m_93) (fun _ h9 => h9) rfl (by decide +kernel) rfl rfl (Nat.le_of_ble_eq_true rfl) d_Pi_draw_92 (fun H locs hP hD hS => ?_)
        have hP : va_P (dC, dI) cls [(a_p0, .inr (0, [.ref a_flipsOf, .ref a_termsAt, .ref a_numbers, .ref a_spread, .int 1, .int held, .int terms, .int widest, .int u_5, .int foundSigns])), (a_flipsOf, .inl (cI, 60, .inl flipsOf)), (a_termsAt, .inl (cI, 256, .inl termsAt)), (a_numbers, .inl (cJ, 256, .inr (.inl numbers))), (a_spread, .inl (cI, 256, .inl spread)), (a_p1, .inr (1, [.ref a_keys1, .ref a_numbers1, .ref z_spareKeys1, .ref z_spareNumbers1, .int count1])), (a_keys1, .inl (cI, 60, .inl keys1)), (a_numbers1, .inl (cI, 60, .inl numbers1)), (a_p2, .inr (2, [.ref z_told2, .ref a_rows2, .ref a_back2, .ref z_spareBack2, .ref z_left2, .int size2, .int kind2])), (a_rows2, .inl (cI, 8, .inl rows2)), (a_back2, .inl (cI, 8, .inl back2))] H := hP
        have hD : va_D A [(a_p0, .inr (0, [.ref a_flipsOf, .ref a_termsAt, .ref a_numbers, .ref a_spread, .int 1, .int held, .int terms, .int widest, .int u_5, .int foundSigns])), (a_flipsOf, .inl (cI, 60, .inl flipsOf)), (a_termsAt, .inl (cI, 256, .inl termsAt)), (a_numbers, .inl (cJ, 256, .inr (.inl numbers))), (a_spread, .inl (cI, 256, .inl spread)), (a_p1, .inr (1, [.ref a_keys1, .ref a_numbers1, .ref z_spareKeys1, .ref z_spareNumbers1, .int count1])), (a_keys1, .inl (cI, 60, .inl keys1)), (a_numbers1, .inl (cI, 60, .inl numbers1)), (a_p2, .inr (2, [.ref z_told2, .ref a_rows2, .ref a_back2, .ref z_spareBack2, .ref z_left2, .int size2, .int kind2])), (a_rows2, .inl (cI, 8, .inl rows2)), (a_back2, .inl (cI, 8, .inl back2))] := hD
        have hu := Option.some.inj hf
        subst hu
        exact rw_v hQ rfl hP hD hK hS hx hb hr hlocks d_Pi_draw_95
      · replace hf := if_f c_4 hf
        refine lv_aload_n hx hb d_Pi_draw_43 rfl (lv_at hl 0 rfl) ?_
        refine va_get (D := (dC, dI)) (ci := 0) (v := .ref a_termsAt) (C := "FermionMaps$Picture") (T := F_Pi) (N := 10) hx hb ht0 i_Pi hown hK hP 0 rfl rfl 1 (by decide) (ht0 _ m_90) (fun _ h9 => h9) rfl d_Pi_draw_44 ?_
        refine lv_iload hx hb d_Pi_draw_47 (lv_at hl 5 rfl) ?_
        obtain ⟨hi_6, hf⟩ := ckI_ok hf
        refine va_iald hx hb hK hP 2 0 rfl rfl hi_6 d_Pi_draw_49 ?_
        refine lv_if_eq (tgt := 71) hx hb d_Pi_draw_50 (by decide) (fun c_7 => ?_) (fun c_7 => ?_)
        · replace hf := if_t c_7 hf
          exact B_71 (b_Pi_draw_37 F count1 keys1 numbers1 size2 rows2 back2 n) ih x3 x4 x6 drawn held terms widest halvings flipsOf termsAt numbers spread H locs ls hf hP hD hS (lv_sub hl [0, 1, 2, 3, 4, 5] rfl)
        · replace hf := if_f c_7 hf
          refine lv_aload_n hx hb d_Pi_draw_53 rfl (lv_at hl 0 rfl) ?_
          refine lv_iload hx hb d_Pi_draw_54 (lv_at hl 5 rfl) ?_
          refine lv_aload_n hx hb d_Pi_draw_56 rfl (lv_at hl 1 rfl) ?_
          refine lv_aload_n hx hb d_Pi_draw_57 rfl (lv_at hl 2 rfl) ?_
          obtain ⟨u_9, h_u_9, hf⟩ := bd hf
          refine wr_v (wr := [(a_termsAt, .inl (cI, 256, .inl termsAt)), (a_rows2, .inl (cI, 8, .inl rows2))]) (wrV_run (As := [.int x6, .ref a_p1, .ref a_p2]) (rest := []) ⟨hx, hb, hml, hown, ht0⟩ (c_Pi_hold l dC dI cI cJ a_p0 a_flipsOf a_numbers a_spread a_p1 a_keys1 a_numbers1 a_p2 a_back2 a_termsAt z_spareKeys1 z_spareNumbers1 z_told2 a_rows2 z_spareBack2 z_left2 H.size drawn held terms widest halvings foundSigns flipsOf numbers spread count1 keys1 numbers1 size2 kind2 back2 x6 F u_9 h_u_9) (cwV 3 ht0 (gV m_278 m_279 m_280 m_4 m_281) rfl rfl rfl (by decide +kernel) ⟨Nat.le_of_ble_eq_true rfl, Nat.le_of_ble_eq_true rfl⟩) hK hNW hP hD [0, 1, 3, 4, 5, 6, 7, 8, 10] rfl rfl (by decide) (ci := 0) (q0 := 0) rfl rfl rfl hl.1 rfl (Nat.le_of_ble_eq_true rfl) d_Pi_draw_58 ⟨Nat.zero_le _, Nat.zero_le _⟩) hP hD hS hA [0, 1, 3, 4, 5, 6, 7, 8, 10] [2, 9] rfl rfl (by decide) (by decide) (fun w1 H locs hw hP hD hS => ?_)
          obtain rfl := hw
          have hP : va_P (dC, dI) cls [(a_p0, .inr (0, [.ref a_flipsOf, .ref a_termsAt, .ref a_numbers, .ref a_spread, .int drawn, .int u_9.1, .int terms, .int widest, .int halvings, .int foundSigns])), (a_flipsOf, .inl (cI, 60, .inl flipsOf)), (a_termsAt, .inl (cI, 256, .inl termsAt)), (a_numbers, .inl (cJ, 256, .inr (.inl u_9.2.1))), (a_spread, .inl (cI, 256, .inl u_9.2.2)), (a_p1, .inr (1, [.ref a_keys1, .ref a_numbers1, .ref z_spareKeys1, .ref z_spareNumbers1, .int count1])), (a_keys1, .inl (cI, 60, .inl keys1)), (a_numbers1, .inl (cI, 60, .inl numbers1)), (a_p2, .inr (2, [.ref z_told2, .ref a_rows2, .ref a_back2, .ref z_spareBack2, .ref z_left2, .int size2, .int kind2])), (a_rows2, .inl (cI, 8, .inl rows2)), (a_back2, .inl (cI, 8, .inl back2))] H := hP.sub [2, 3, 0, 4, 5, 6, 7, 8, 9, 1, 10] rfl
          have hD : va_D A [(a_p0, .inr (0, [.ref a_flipsOf, .ref a_termsAt, .ref a_numbers, .ref a_spread, .int drawn, .int u_9.1, .int terms, .int widest, .int halvings, .int foundSigns])), (a_flipsOf, .inl (cI, 60, .inl flipsOf)), (a_termsAt, .inl (cI, 256, .inl termsAt)), (a_numbers, .inl (cJ, 256, .inr (.inl u_9.2.1))), (a_spread, .inl (cI, 256, .inl u_9.2.2)), (a_p1, .inr (1, [.ref a_keys1, .ref a_numbers1, .ref z_spareKeys1, .ref z_spareNumbers1, .int count1])), (a_keys1, .inl (cI, 60, .inl keys1)), (a_numbers1, .inl (cI, 60, .inl numbers1)), (a_p2, .inr (2, [.ref z_told2, .ref a_rows2, .ref a_back2, .ref z_spareBack2, .ref z_left2, .int size2, .int kind2])), (a_rows2, .inl (cI, 8, .inl rows2)), (a_back2, .inl (cI, 8, .inl back2))] := hD.sub [2, 3, 0, 4, 5, 6, 7, 8, 9, 1, 10] (by decide) rfl
          refine lv_lload hx hb d_Pi_draw_61 (lv_at hl 4 rfl) ?_
          refine lv_aload_n hx hb d_Pi_draw_63 rfl (lv_at hl 0 rfl) ?_
          refine lv_iload_n hx hb d_Pi_draw_64 rfl (lv_at hl 3 rfl) ?_
          obtain ⟨u_10, h_u_10, hf⟩ := bd hf
          refine wr_l (wr := [(a_flipsOf, .inl (cI, 60, .inl flipsOf)), (a_spread, .inl (cI, 256, .inl u_9.2.2)), (a_p1, .inr (1, [.ref a_keys1, .ref a_numbers1, .ref z_spareKeys1, .ref z_spareNumbers1, .int count1])), (a_keys1, .inl (cI, 60, .inl keys1)), (a_numbers1, .inl (cI, 60, .inl numbers1)), (a_p2, .inr (2, [.ref z_told2, .ref a_rows2, .ref a_back2, .ref z_spareBack2, .ref z_left2, .int size2, .int kind2])), (a_rows2, .inl (cI, 8, .inl rows2)), (a_back2, .inl (cI, 8, .inl back2))]) (wrV_run (As := [.int x3]) (rest := [.long x4]) ⟨hx, hb, hml, hown, ht0⟩ (c_Pi_tally l dC dI cI cJ a_p0 a_termsAt a_numbers a_flipsOf a_spread H.size drawn u_9.1 terms widest halvings foundSigns termsAt u_9.2.1 x3 F u_10 h_u_10) (cwV 1 ht0 (gV m_304 m_305 m_306 m_4 m_307) rfl rfl rfl (by decide +kernel) ⟨Nat.le_of_ble_eq_true rfl, Nat.le_of_ble_eq_true rfl⟩) hK hNW hP hD [0, 2, 3] rfl rfl (by decide) (ci := 0) (q0 := 0) rfl rfl rfl hl.1 rfl (Nat.le_of_ble_eq_true rfl) d_Pi_draw_65 ⟨Nat.zero_le _, Nat.zero_le _⟩) hP hD hS hA [0, 2, 3] [1, 4, 5, 6, 7, 8, 9, 10] rfl rfl (by decide) (by decide) (fun w1 H locs hw hP hD hS => ?_)
          obtain rfl := hw
          have hP : va_P (dC, dI) cls [(a_p0, .inr (0, [.ref a_flipsOf, .ref a_termsAt, .ref a_numbers, .ref a_spread, .int drawn, .int u_9.1, .int u_10.2.1, .int u_10.2.2.1, .int halvings, .int foundSigns])), (a_flipsOf, .inl (cI, 60, .inl flipsOf)), (a_termsAt, .inl (cI, 256, .inl u_10.2.2.2)), (a_numbers, .inl (cJ, 256, .inr (.inl u_9.2.1))), (a_spread, .inl (cI, 256, .inl u_9.2.2)), (a_p1, .inr (1, [.ref a_keys1, .ref a_numbers1, .ref z_spareKeys1, .ref z_spareNumbers1, .int count1])), (a_keys1, .inl (cI, 60, .inl keys1)), (a_numbers1, .inl (cI, 60, .inl numbers1)), (a_p2, .inr (2, [.ref z_told2, .ref a_rows2, .ref a_back2, .ref z_spareBack2, .ref z_left2, .int size2, .int kind2])), (a_rows2, .inl (cI, 8, .inl rows2)), (a_back2, .inl (cI, 8, .inl back2))] H := hP.sub [8, 0, 9, 10, 1, 2, 3, 4, 5, 6, 7] rfl
          have hD : va_D A [(a_p0, .inr (0, [.ref a_flipsOf, .ref a_termsAt, .ref a_numbers, .ref a_spread, .int drawn, .int u_9.1, .int u_10.2.1, .int u_10.2.2.1, .int halvings, .int foundSigns])), (a_flipsOf, .inl (cI, 60, .inl flipsOf)), (a_termsAt, .inl (cI, 256, .inl u_10.2.2.2)), (a_numbers, .inl (cJ, 256, .inr (.inl u_9.2.1))), (a_spread, .inl (cI, 256, .inl u_9.2.2)), (a_p1, .inr (1, [.ref a_keys1, .ref a_numbers1, .ref z_spareKeys1, .ref z_spareNumbers1, .int count1])), (a_keys1, .inl (cI, 60, .inl keys1)), (a_numbers1, .inl (cI, 60, .inl numbers1)), (a_p2, .inr (2, [.ref z_told2, .ref a_rows2, .ref a_back2, .ref z_spareBack2, .ref z_left2, .int size2, .int kind2])), (a_rows2, .inl (cI, 8, .inl rows2)), (a_back2, .inl (cI, 8, .inl back2))] := hD.sub [8, 0, 9, 10, 1, 2, 3, 4, 5, 6, 7] (by decide) rfl
          refine lv_lor hx hb d_Pi_draw_68 ?_
          refine lv_topl (fun x4_11 e_x4_11 => ?_)
          replace hf := nm_eq e_x4_11 hf
          refine lv_lstore (lv' := [(4, .long x4_11), (0, .ref a_p0), (1, .ref a_p1), (2, .ref a_p2), (3, .int x3), (6, .int x6)]) hx hb d_Pi_draw_69 hl (by decide) rfl (fun ls hl => ?_)
          exact B_71 (b_Pi_draw_37 F count1 keys1 numbers1 size2 rows2 back2 n) ih x3 x4_11 x6 drawn u_9.1 u_10.2.1 u_10.2.2.1 halvings flipsOf u_10.2.2.2 u_9.2.1 u_9.2.2 H locs ls hf hP hD hS (lv_sub hl [1, 2, 3, 4, 0, 5] rfl)
  rw [f_Pi_draw] at hf
  refine lv_aload_n hx hb d_Pi_draw_0 rfl (lv_at hl 0 rfl) ?_
  refine va_get (D := (dC, dI)) (ci := 0) (v := .int drawn) (C := "FermionMaps$Picture") (T := F_Pi) (N := 10) hx hb ht0 i_Pi hown hK hP 0 rfl rfl 4 (by decide) (ht0 _ m_93) (fun _ h9 => h9) rfl d_Pi_draw_1 ?_
  refine lv_if_eq (tgt := 8) hx hb d_Pi_draw_4 (by decide) (fun c_1 => ?_) (fun c_1 => ?_)
  · replace hf := if_t c_1 hf
    refine lv_aload_n hx hb d_Pi_draw_8 rfl (lv_at hl 0 rfl) ?_
    refine lv_iconst (v := 0) hx hb d_Pi_draw_9 (by decide) ?_
    refine va_put (D := (dC, dI)) (ci := 0) (v := .int 0) (ty := .int) (C := "FermionMaps$Picture") (T := F_Pi) (N := 10) hx hb ht0 i_Pi t_Pi t_Pi_ok n_Pi hown hK hP hD hS 0 rfl rfl 6 (by decide) (ht0 _ m_97) (fun _ h9 => h9) rfl (by decide +kernel) rfl rfl (Nat.le_of_ble_eq_true rfl) d_Pi_draw_10 (fun H locs hP hD hS => ?_)
    have hP : va_P (dC, dI) cls [(a_p0, .inr (0, [.ref a_flipsOf, .ref a_termsAt, .ref a_numbers, .ref a_spread, .int drawn, .int held, .int 0, .int widest, .int halvings, .int foundSigns])), (a_flipsOf, .inl (cI, 60, .inl flipsOf)), (a_termsAt, .inl (cI, 256, .inl termsAt)), (a_numbers, .inl (cJ, 256, .inr (.inl numbers))), (a_spread, .inl (cI, 256, .inl spread)), (a_p1, .inr (1, [.ref a_keys1, .ref a_numbers1, .ref z_spareKeys1, .ref z_spareNumbers1, .int count1])), (a_keys1, .inl (cI, 60, .inl keys1)), (a_numbers1, .inl (cI, 60, .inl numbers1)), (a_p2, .inr (2, [.ref z_told2, .ref a_rows2, .ref a_back2, .ref z_spareBack2, .ref z_left2, .int size2, .int kind2])), (a_rows2, .inl (cI, 8, .inl rows2)), (a_back2, .inl (cI, 8, .inl back2))] H := hP
    have hD : va_D A [(a_p0, .inr (0, [.ref a_flipsOf, .ref a_termsAt, .ref a_numbers, .ref a_spread, .int drawn, .int held, .int 0, .int widest, .int halvings, .int foundSigns])), (a_flipsOf, .inl (cI, 60, .inl flipsOf)), (a_termsAt, .inl (cI, 256, .inl termsAt)), (a_numbers, .inl (cJ, 256, .inr (.inl numbers))), (a_spread, .inl (cI, 256, .inl spread)), (a_p1, .inr (1, [.ref a_keys1, .ref a_numbers1, .ref z_spareKeys1, .ref z_spareNumbers1, .int count1])), (a_keys1, .inl (cI, 60, .inl keys1)), (a_numbers1, .inl (cI, 60, .inl numbers1)), (a_p2, .inr (2, [.ref z_told2, .ref a_rows2, .ref a_back2, .ref z_spareBack2, .ref z_left2, .int size2, .int kind2])), (a_rows2, .inl (cI, 8, .inl rows2)), (a_back2, .inl (cI, 8, .inl back2))] := hD
    refine lv_aload_n hx hb d_Pi_draw_13 rfl (lv_at hl 0 rfl) ?_
    refine lv_iconst (v := 0) hx hb d_Pi_draw_14 (by decide) ?_
    refine va_put (D := (dC, dI)) (ci := 0) (v := .int 0) (ty := .int) (C := "FermionMaps$Picture") (T := F_Pi) (N := 10) hx hb ht0 i_Pi t_Pi t_Pi_ok n_Pi hown hK hP hD hS 0 rfl rfl 7 (by decide) (ht0 _ m_99) (fun _ h9 => h9) rfl (by decide +kernel) rfl rfl (Nat.le_of_ble_eq_true rfl) d_Pi_draw_15 (fun H locs hP hD hS => ?_)
    have hP : va_P (dC, dI) cls [(a_p0, .inr (0, [.ref a_flipsOf, .ref a_termsAt, .ref a_numbers, .ref a_spread, .int drawn, .int held, .int 0, .int 0, .int halvings, .int foundSigns])), (a_flipsOf, .inl (cI, 60, .inl flipsOf)), (a_termsAt, .inl (cI, 256, .inl termsAt)), (a_numbers, .inl (cJ, 256, .inr (.inl numbers))), (a_spread, .inl (cI, 256, .inl spread)), (a_p1, .inr (1, [.ref a_keys1, .ref a_numbers1, .ref z_spareKeys1, .ref z_spareNumbers1, .int count1])), (a_keys1, .inl (cI, 60, .inl keys1)), (a_numbers1, .inl (cI, 60, .inl numbers1)), (a_p2, .inr (2, [.ref z_told2, .ref a_rows2, .ref a_back2, .ref z_spareBack2, .ref z_left2, .int size2, .int kind2])), (a_rows2, .inl (cI, 8, .inl rows2)), (a_back2, .inl (cI, 8, .inl back2))] H := hP
    have hD : va_D A [(a_p0, .inr (0, [.ref a_flipsOf, .ref a_termsAt, .ref a_numbers, .ref a_spread, .int drawn, .int held, .int 0, .int 0, .int halvings, .int foundSigns])), (a_flipsOf, .inl (cI, 60, .inl flipsOf)), (a_termsAt, .inl (cI, 256, .inl termsAt)), (a_numbers, .inl (cJ, 256, .inr (.inl numbers))), (a_spread, .inl (cI, 256, .inl spread)), (a_p1, .inr (1, [.ref a_keys1, .ref a_numbers1, .ref z_spareKeys1, .ref z_spareNumbers1, .int count1])), (a_keys1, .inl (cI, 60, .inl keys1)), (a_numbers1, .inl (cI, 60, .inl numbers1)), (a_p2, .inr (2, [.ref z_told2, .ref a_rows2, .ref a_back2, .ref z_spareBack2, .ref z_left2, .int size2, .int kind2])), (a_rows2, .inl (cI, 8, .inl rows2)), (a_back2, .inl (cI, 8, .inl back2))] := hD
    refine lv_aload_n hx hb d_Pi_draw_18 rfl (lv_at hl 0 rfl) ?_
    refine lv_aload_n hx hb d_Pi_draw_19 rfl (lv_at hl 1 rfl) ?_
    refine lv_aload_n hx hb d_Pi_draw_20 rfl (lv_at hl 2 rfl) ?_
    obtain ⟨u_2, h_u_2, hf⟩ := bd hf
    refine wr_v (wr := [(a_numbers, .inl (cJ, 256, .inr (.inl numbers))), (a_spread, .inl (cI, 256, .inl spread)), (a_numbers1, .inl (cI, 60, .inl numbers1)), (a_back2, .inl (cI, 8, .inl back2))]) (wrV_run (As := [.ref a_p1, .ref a_p2]) (rest := []) ⟨hx, hb, hml, hown, ht0⟩ (c_Pi_markFlips l dC dI cI cJ a_p0 a_flipsOf a_termsAt a_p1 a_keys1 a_p2 a_rows2 a_numbers a_spread a_numbers1 z_spareKeys1 z_spareNumbers1 z_told2 a_back2 z_spareBack2 z_left2 H.size drawn held 0 0 halvings foundSigns flipsOf termsAt count1 keys1 size2 kind2 rows2 F u_2 h_u_2) (cwV 2 ht0 (gV m_265 m_266 m_267 m_4 m_268) rfl rfl rfl (by decide +kernel) ⟨Nat.le_of_ble_eq_true rfl, Nat.le_of_ble_eq_true rfl⟩) hK hNW hP hD [0, 1, 2, 5, 6, 8, 9] rfl rfl (by decide) (ci := 0) (q0 := 0) rfl rfl rfl hl.1 rfl (Nat.le_of_ble_eq_true rfl) d_Pi_draw_21 ⟨Nat.zero_le _, Nat.zero_le _⟩) hP hD hS hA [0, 1, 2, 5, 6, 8, 9] [3, 4, 7, 10] rfl rfl (by decide) (by decide) (fun w1 H locs hw hP hD hS => ?_)
    obtain rfl := hw
    have hP : va_P (dC, dI) cls [(a_p0, .inr (0, [.ref a_flipsOf, .ref a_termsAt, .ref a_numbers, .ref a_spread, .int drawn, .int held, .int 0, .int 0, .int halvings, .int foundSigns])), (a_flipsOf, .inl (cI, 60, .inl u_2.1)), (a_termsAt, .inl (cI, 256, .inl u_2.2)), (a_numbers, .inl (cJ, 256, .inr (.inl numbers))), (a_spread, .inl (cI, 256, .inl spread)), (a_p1, .inr (1, [.ref a_keys1, .ref a_numbers1, .ref z_spareKeys1, .ref z_spareNumbers1, .int count1])), (a_keys1, .inl (cI, 60, .inl keys1)), (a_numbers1, .inl (cI, 60, .inl numbers1)), (a_p2, .inr (2, [.ref z_told2, .ref a_rows2, .ref a_back2, .ref z_spareBack2, .ref z_left2, .int size2, .int kind2])), (a_rows2, .inl (cI, 8, .inl rows2)), (a_back2, .inl (cI, 8, .inl back2))] H := hP.sub [4, 5, 6, 0, 1, 7, 8, 2, 9, 10, 3] rfl
    have hD : va_D A [(a_p0, .inr (0, [.ref a_flipsOf, .ref a_termsAt, .ref a_numbers, .ref a_spread, .int drawn, .int held, .int 0, .int 0, .int halvings, .int foundSigns])), (a_flipsOf, .inl (cI, 60, .inl u_2.1)), (a_termsAt, .inl (cI, 256, .inl u_2.2)), (a_numbers, .inl (cJ, 256, .inr (.inl numbers))), (a_spread, .inl (cI, 256, .inl spread)), (a_p1, .inr (1, [.ref a_keys1, .ref a_numbers1, .ref z_spareKeys1, .ref z_spareNumbers1, .int count1])), (a_keys1, .inl (cI, 60, .inl keys1)), (a_numbers1, .inl (cI, 60, .inl numbers1)), (a_p2, .inr (2, [.ref z_told2, .ref a_rows2, .ref a_back2, .ref z_spareBack2, .ref z_left2, .int size2, .int kind2])), (a_rows2, .inl (cI, 8, .inl rows2)), (a_back2, .inl (cI, 8, .inl back2))] := hD.sub [4, 5, 6, 0, 1, 7, 8, 2, 9, 10, 3] (by decide) rfl
    refine lv_iconst (v := 1) hx hb d_Pi_draw_24 (by decide) ?_
    refine lv_aload_n hx hb d_Pi_draw_25 rfl (lv_at hl 2 rfl) ?_
    refine va_get (D := (dC, dI)) (ci := 2) (v := .int size2) (C := "FermionMaps$Wiring") (T := F_Wi) (N := 7) hx hb ht0 i_Wi hown hK hP 8 rfl rfl 5 (by decide) (ht0 _ m_64) (fun _ h9 => h9) rfl d_Pi_draw_26 ?_
    refine lv_ishl hx hb d_Pi_draw_29 ?_
    refine lv_topi (fun x3_3 e_x3_3 => ?_)
    replace hf := nm_eq e_x3_3 hf
    refine lv_istore_n (lv' := [(3, .int x3_3), (0, .ref a_p0), (1, .ref a_p1), (2, .ref a_p2)]) hx hb d_Pi_draw_30 rfl hl (by decide) rfl (fun ls hl => ?_)
    refine lv_lconst (v := 0) hx hb d_Pi_draw_31 (by decide) ?_
    refine lv_lstore (lv' := [(4, .long 0), (3, .int x3_3), (0, .ref a_p0), (1, .ref a_p1), (2, .ref a_p2)]) hx hb d_Pi_draw_32 hl (by decide) rfl (fun ls hl => ?_)
    refine lv_iconst (v := 0) hx hb d_Pi_draw_34 (by decide) ?_
    refine lv_istore (lv' := [(6, .int 0), (4, .long 0), (3, .int x3_3), (0, .ref a_p0), (1, .ref a_p1), (2, .ref a_p2)]) hx hb d_Pi_draw_35 hl (by decide) rfl (fun ls hl => ?_)
    exact B_37 F x3_3 0 0 drawn held 0 0 halvings u_2.1 u_2.2 numbers spread H locs ls hf hP hD hS (lv_sub hl [3, 4, 5, 2, 1, 0] rfl)
  · replace hf := if_f c_1 hf
    have hu := Option.some.inj hf
    subst hu
    exact rw_v hQ rfl hP hD hK hS hx hb hr hlocks d_Pi_draw_7

/-! FermionMaps$Picture.find(ILFermionMaps$Sum;LFermionMaps$Wiring;)V -/
def b_Pi_find_114 (F : Nat) (k_78 : Int32 → Int32 → Int32 → Int32 → Int32 → (Nat → Int64) → (Nat → Int32) → Option (Int32 × Int32 × (Nat → Int64) × (Nat → Int32))) (flipsOf : Nat → Int32) (termsAt : Nat → Int32) (count2 : Int32) (keys2 : Nat → Int32) (numbers2 : Nat → Int32) (size3 : Int32) (back3 : Nat → Int32) (x4 : Int32) (x5 : Int32) (x7 : Int32) (held : Int32) (foundSigns : Int32) (numbers : Nat → Int64) (spread : Nat → Int32) : Option (Int32 × Int32 × (Nat → Int64) × (Nat → Int32)) :=
  nm (x7 + 1 : Int32) fun x7_7 =>
  k_78 x4 x5 x7_7 held foundSigns numbers spread
def b_Pi_find_78 (F : Nat) (flipsOf : Nat → Int32) (termsAt : Nat → Int32) (count2 : Int32) (keys2 : Nat → Int32) (numbers2 : Nat → Int32) (size3 : Int32) (back3 : Nat → Int32) : Nat → Int32 → Int32 → Int32 → Int32 → Int32 → (Nat → Int64) → (Nat → Int32) → Option (Int32 × Int32 × (Nat → Int64) × (Nat → Int32))
  | 0, _, _, _, _, _, _, _ => none
  | n + 1, x4, x5, x7, held, foundSigns, numbers, spread =>
    if x4 ≤ x7 then
      some (held, foundSigns, numbers, spread)
    else
      ckI x7 256 <|
      if (lg_cmp (numbers x7.toNatClampNeg) 0) = 0 then
        b_Pi_find_114 F (b_Pi_find_78 F flipsOf termsAt count2 keys2 numbers2 size3 back3 n) flipsOf termsAt count2 keys2 numbers2 size3 back3 x4 x5 x7 held foundSigns numbers spread
      else
        if x5 = 0 then
          some (held, x7, numbers, spread)
        else
          nm (x5 + (-1) : Int32) fun x5_9 =>
          b_Pi_find_114 F (b_Pi_find_78 F flipsOf termsAt count2 keys2 numbers2 size3 back3 n) flipsOf termsAt count2 keys2 numbers2 size3 back3 x4 x5_9 x7 held foundSigns numbers spread
def b_Pi_find_70 (F : Nat) (flipsOf : Nat → Int32) (termsAt : Nat → Int32) (count2 : Int32) (keys2 : Nat → Int32) (numbers2 : Nat → Int32) (size3 : Int32) (back3 : Nat → Int32) (x4 : Int32) (x5 : Int32) (held : Int32) (foundSigns : Int32) (numbers : Nat → Int64) (spread : Nat → Int32) : Option (Int32 × Int32 × (Nat → Int64) × (Nat → Int32)) :=
  b_Pi_find_78 F flipsOf termsAt count2 keys2 numbers2 size3 back3 F x4 x5 0 held 0 numbers spread
def b_Pi_find_53 (F : Nat) (flipsOf : Nat → Int32) (termsAt : Nat → Int32) (count2 : Int32) (keys2 : Nat → Int32) (numbers2 : Nat → Int32) (size3 : Int32) (back3 : Nat → Int32) (x4 : Int32) (x5 : Int32) (x6 : Int32) (held : Int32) (foundSigns : Int32) (numbers : Nat → Int64) (spread : Nat → Int32) : Option (Int32 × Int32 × (Nat → Int64) × (Nat → Int32)) :=
  if x6 = held then
    b_Pi_find_70 F flipsOf termsAt count2 keys2 numbers2 size3 back3 x4 x5 held foundSigns numbers spread
  else
    (f_Pi_hold F held flipsOf numbers spread count2 keys2 numbers2 size3 back3 x6).bind fun u_10 =>
    b_Pi_find_70 F flipsOf termsAt count2 keys2 numbers2 size3 back3 x4 x5 u_10.1 foundSigns u_10.2.1 u_10.2.2
def b_Pi_find_14 (F : Nat) (flipsOf : Nat → Int32) (termsAt : Nat → Int32) (count2 : Int32) (keys2 : Nat → Int32) (numbers2 : Nat → Int32) (size3 : Int32) (back3 : Nat → Int32) : Nat → Int32 → Int32 → Int32 → Int32 → Int32 → (Nat → Int64) → (Nat → Int32) → Option (Int32 × Int32 × (Nat → Int64) × (Nat → Int32))
  | 0, _, _, _, _, _, _, _ => none
  | n + 1, x4, x5, x6, held, foundSigns, numbers, spread =>
    if (x4 - 1) ≤ x6 then
      b_Pi_find_53 F flipsOf termsAt count2 keys2 numbers2 size3 back3 x4 x5 x6 held foundSigns numbers spread
    else
      ckI x6 256 <|
      if x5 < (termsAt x6.toNatClampNeg) then
        b_Pi_find_53 F flipsOf termsAt count2 keys2 numbers2 size3 back3 x4 x5 x6 held foundSigns numbers spread
      else
        ckI x6 256 <|
        nm ((x5 - (termsAt x6.toNatClampNeg)) : Int32) fun x5_14 =>
        nm (x6 + 1 : Int32) fun x6_15 =>
        b_Pi_find_14 F flipsOf termsAt count2 keys2 numbers2 size3 back3 n x4 x5_14 x6_15 held foundSigns numbers spread
def f_Pi_find (F : Nat) (held : Int32) (foundSigns : Int32) (flipsOf : Nat → Int32) (termsAt : Nat → Int32) (numbers : Nat → Int64) (spread : Nat → Int32) (count2 : Int32) (keys2 : Nat → Int32) (numbers2 : Nat → Int32) (size3 : Int32) (back3 : Nat → Int32) (p1 : Int32) : Option (Int32 × Int32 × (Nat → Int64) × (Nat → Int32)) :=
  nm (((1 : Int32) <<< (size3 &&& 31)) : Int32) fun x4_1 =>
  b_Pi_find_14 F flipsOf termsAt count2 keys2 numbers2 size3 back3 F x4_1 p1 0 held foundSigns numbers spread
abbrev rm_Pi_find : Room := { frames := 5, cells := 0, slots := 0, locals := 116 }
set_option maxHeartbeats 4000000 in
set_option maxRecDepth 100000 in
theorem c_Pi_find (l : Launch) (dC : Nat → ClassId) (dI : Nat → Nat → Nat) (cI cJ : ClassId) (a_p0 a_flipsOf a_termsAt a_numbers a_spread a_p2 a_keys2 a_numbers2 a_p3 a_back3 z_spareKeys2 z_spareNumbers2 z_told3 z_rows3 z_spareBack3 z_left3 : Nat) (sz : Nat) (drawn : Int32) (held : Int32) (terms : Int32) (widest : Int32) (halvings : Int32) (foundSigns : Int32) (flipsOf : Nat → Int32) (termsAt : Nat → Int32) (numbers : Nat → Int64) (spread : Nat → Int32) (count2 : Int32) (keys2 : Nat → Int32) (numbers2 : Nat → Int32) (size3 : Int32) (kind3 : Int32) (back3 : Nat → Int32) (p1 : Int32) (F : Nat) (u : Int32 × Int32 × (Nat → Int64) × (Nat → Int32)) (hf : f_Pi_find F held foundSigns flipsOf termsAt numbers spread count2 keys2 numbers2 size3 back3 p1 = some u) : Met l y_Pi_find (Cond.code y_Pi_find prog_2_method_9_code 8 none :: T0) rm_Pi_find (va_Pc [.ref a_p0, .int p1, .ref a_p2, .ref a_p3] (Ww (dC, dI) [(a_p0, .inr (0, [.ref a_flipsOf, .ref a_termsAt, .ref a_numbers, .ref a_spread, .int drawn, .int held, .int terms, .int widest, .int halvings, .int foundSigns])), (a_flipsOf, .inl (cI, 60, .inl flipsOf)), (a_termsAt, .inl (cI, 256, .inl termsAt)), (a_numbers, .inl (cJ, 256, .inr (.inl numbers))), (a_spread, .inl (cI, 256, .inl spread)), (a_p2, .inr (1, [.ref a_keys2, .ref a_numbers2, .ref z_spareKeys2, .ref z_spareNumbers2, .int count2])), (a_keys2, .inl (cI, 60, .inl keys2)), (a_numbers2, .inl (cI, 60, .inl numbers2)), (a_p3, .inr (2, [.ref z_told3, .ref z_rows3, .ref a_back3, .ref z_spareBack3, .ref z_left3, .int size3, .int kind3])), (a_back3, .inl (cI, 8, .inl back3))] [(cI, .int), (cJ, .long)] sz)) (va_Qv (fun _ : Unit => True) (Bw (dC, dI) [(cI, .int), (cJ, .long)] (va_A [(a_p0, .inr (0, [.ref a_flipsOf, .ref a_termsAt, .ref a_numbers, .ref a_spread, .int drawn, .int held, .int terms, .int widest, .int halvings, .int foundSigns])), (a_flipsOf, .inl (cI, 60, .inl flipsOf)), (a_termsAt, .inl (cI, 256, .inl termsAt)), (a_numbers, .inl (cJ, 256, .inr (.inl numbers))), (a_spread, .inl (cI, 256, .inl spread)), (a_p2, .inr (1, [.ref a_keys2, .ref a_numbers2, .ref z_spareKeys2, .ref z_spareNumbers2, .int count2])), (a_keys2, .inl (cI, 60, .inl keys2)), (a_numbers2, .inl (cI, 60, .inl numbers2)), (a_p3, .inr (2, [.ref z_told3, .ref z_rows3, .ref a_back3, .ref z_spareBack3, .ref z_left3, .int size3, .int kind3])), (a_back3, .inl (cI, 8, .inl back3))] sz) (fun w1 => w1 = [(a_p0, .inr (0, [.ref a_flipsOf, .ref a_termsAt, .ref a_numbers, .ref a_spread, .int drawn, .int u.1, .int terms, .int widest, .int halvings, .int u.2.1])), (a_flipsOf, .inl (cI, 60, .inl flipsOf)), (a_termsAt, .inl (cI, 256, .inl termsAt)), (a_numbers, .inl (cJ, 256, .inr (.inl u.2.2.1))), (a_spread, .inl (cI, 256, .inl u.2.2.2)), (a_p2, .inr (1, [.ref a_keys2, .ref a_numbers2, .ref z_spareKeys2, .ref z_spareNumbers2, .int count2])), (a_keys2, .inl (cI, 60, .inl keys2)), (a_numbers2, .inl (cI, 60, .inl numbers2)), (a_p3, .inr (2, [.ref z_told3, .ref z_rows3, .ref a_back3, .ref z_spareBack3, .ref z_left3, .int size3, .int kind3])), (a_back3, .inl (cI, 8, .inl back3))])) (va_A [(a_p0, .inr (0, [.ref a_flipsOf, .ref a_termsAt, .ref a_numbers, .ref a_spread, .int drawn, .int held, .int terms, .int widest, .int halvings, .int foundSigns])), (a_flipsOf, .inl (cI, 60, .inl flipsOf)), (a_termsAt, .inl (cI, 256, .inl termsAt)), (a_numbers, .inl (cJ, 256, .inr (.inl numbers))), (a_spread, .inl (cI, 256, .inl spread)), (a_p2, .inr (1, [.ref a_keys2, .ref a_numbers2, .ref z_spareKeys2, .ref z_spareNumbers2, .int count2])), (a_keys2, .inl (cI, 60, .inl keys2)), (a_numbers2, .inl (cI, 60, .inl numbers2)), (a_p3, .inr (2, [.ref z_told3, .ref z_rows3, .ref a_back3, .ref z_spareBack3, .ref z_left3, .int size3, .int kind3])), (a_back3, .inl (cI, 8, .inl back3))] sz)) 0 0 (va_A [(a_p0, .inr (0, [.ref a_flipsOf, .ref a_termsAt, .ref a_numbers, .ref a_spread, .int drawn, .int held, .int terms, .int widest, .int halvings, .int foundSigns])), (a_flipsOf, .inl (cI, 60, .inl flipsOf)), (a_termsAt, .inl (cI, 256, .inl termsAt)), (a_numbers, .inl (cJ, 256, .inr (.inl numbers))), (a_spread, .inl (cI, 256, .inl spread)), (a_p2, .inr (1, [.ref a_keys2, .ref a_numbers2, .ref z_spareKeys2, .ref z_spareNumbers2, .int count2])), (a_keys2, .inl (cI, 60, .inl keys2)), (a_numbers2, .inl (cI, 60, .inl numbers2)), (a_p3, .inr (2, [.ref z_told3, .ref z_rows3, .ref a_back3, .ref z_spareBack3, .ref z_left3, .int size3, .int kind3])), (a_back3, .inl (cI, 8, .inl back3))] sz) := by
  refine Met.ofW (cc := prog_2_method_9_code) (maxL := 8) (ret := none) (by decide) rfl ?_
  intro p e s m args below meth c s₁ B hml hv
  obtain ⟨rfl, hsz, hP, hK, hD0, hNW⟩ := hv
  have hx := B.exec
  have hb := B.bytes
  have hr := B.returns
  have hts := atoms_spec (ws := Cond.code y_Pi_find prog_2_method_9_code 8 none :: T0) B.pre
  have ht0 : ∀ w ∈ T0, w.before ([.ref a_p0, .int p1, .ref a_p2, .ref a_p3] : List Value).toArray s = true := fun w h => hts w (List.mem_cons_of_mem _ h)
  have hown : s.vm.findClass "FermionMaps$Picture" = some m.cls := findClass_of_methodNamed B.named
  have hlocks := B.notSynchronized
  subst hsz
  have hD := hD0.self (sz := s.heap.size)
  generalize hAe : va_A [(a_p0, .inr (0, [.ref a_flipsOf, .ref a_termsAt, .ref a_numbers, .ref a_spread, .int drawn, .int held, .int terms, .int widest, .int halvings, .int foundSigns])), (a_flipsOf, .inl (cI, 60, .inl flipsOf)), (a_termsAt, .inl (cI, 256, .inl termsAt)), (a_numbers, .inl (cJ, 256, .inr (.inl numbers))), (a_spread, .inl (cI, 256, .inl spread)), (a_p2, .inr (1, [.ref a_keys2, .ref a_numbers2, .ref z_spareKeys2, .ref z_spareNumbers2, .int count2])), (a_keys2, .inl (cI, 60, .inl keys2)), (a_numbers2, .inl (cI, 60, .inl numbers2)), (a_p3, .inr (2, [.ref z_told3, .ref z_rows3, .ref a_back3, .ref z_spareBack3, .ref z_left3, .int size3, .int kind3])), (a_back3, .inl (cI, 8, .inl back3))] s.heap.size = A at hD ⊢
  have hA : ∀ q : Nat, s.heap.size ≤ q → A q := fun q h => by rw [← hAe]; exact Or.inr h
  have hS : va_S A s.heap s.heap [] := va_S.rf
  have hl := lv_entry ([.ref a_p0, .int p1, .ref a_p2, .ref a_p3]) (n := 8) (Nat.le_of_ble_eq_true rfl)
  rw [lg_entry_eq]
  generalize (lg_sl ([.ref a_p0, .int p1, .ref a_p2, .ref a_p3]) ++ List.replicate (8 - (lg_sl ([.ref a_p0, .int p1, .ref a_p2, .ref a_p3])).length) Slot.unset).toArray = ls at hl ⊢
  have hl : lv_has ls 8 [(0, .ref a_p0), (1, .int p1), (2, .ref a_p2), (3, .ref a_p3)] := hl
  refine W.nameQ (fun Q hQ => ?_)
  have B_114 : ∀ (k_78 : Int32 → Int32 → Int32 → Int32 → Int32 → (Nat → Int64) → (Nat → Int32) → Option (Int32 × Int32 × (Nat → Int64) × (Nat → Int32))) (hk_78 : ∀ (x4 : Int32) (x5 : Int32) (x7 : Int32) (held : Int32) (foundSigns : Int32) (numbers : Nat → Int64) (spread : Nat → Int32) (H : Heap) (locs : List Loc) (ls : Array Slot), k_78 x4 x5 x7 held foundSigns numbers spread = some u → va_P (dC, dI) cls [(a_p0, .inr (0, [.ref a_flipsOf, .ref a_termsAt, .ref a_numbers, .ref a_spread, .int drawn, .int held, .int terms, .int widest, .int halvings, .int foundSigns])), (a_flipsOf, .inl (cI, 60, .inl flipsOf)), (a_termsAt, .inl (cI, 256, .inl termsAt)), (a_numbers, .inl (cJ, 256, .inr (.inl numbers))), (a_spread, .inl (cI, 256, .inl spread)), (a_p2, .inr (1, [.ref a_keys2, .ref a_numbers2, .ref z_spareKeys2, .ref z_spareNumbers2, .int count2])), (a_keys2, .inl (cI, 60, .inl keys2)), (a_numbers2, .inl (cI, 60, .inl numbers2)), (a_p3, .inr (2, [.ref z_told3, .ref z_rows3, .ref a_back3, .ref z_spareBack3, .ref z_left3, .int size3, .int kind3])), (a_back3, .inl (cI, 8, .inl back3))] H → va_D A [(a_p0, .inr (0, [.ref a_flipsOf, .ref a_termsAt, .ref a_numbers, .ref a_spread, .int drawn, .int held, .int terms, .int widest, .int halvings, .int foundSigns])), (a_flipsOf, .inl (cI, 60, .inl flipsOf)), (a_termsAt, .inl (cI, 256, .inl termsAt)), (a_numbers, .inl (cJ, 256, .inr (.inl numbers))), (a_spread, .inl (cI, 256, .inl spread)), (a_p2, .inr (1, [.ref a_keys2, .ref a_numbers2, .ref z_spareKeys2, .ref z_spareNumbers2, .int count2])), (a_keys2, .inl (cI, 60, .inl keys2)), (a_numbers2, .inl (cI, 60, .inl numbers2)), (a_p3, .inr (2, [.ref z_told3, .ref z_rows3, .ref a_back3, .ref z_spareBack3, .ref z_left3, .int size3, .int kind3])), (a_back3, .inl (cI, 8, .inl back3))] → va_S A s.heap H locs → lv_has ls 8 [(0, .ref a_p0), (4, .int x4), (5, .int x5), (7, .int x7)] → W p l e (headSpec (Cond.code y_Pi_find prog_2_method_9_code 8 none :: T0) rm_Pi_find).room s m ([.ref a_p0, .int p1, .ref a_p2, .ref a_p3] : List Value).toArray below meth c H locs 0 0 Q (F0 m 78 ls [])), ∀ (x4 : Int32) (x5 : Int32) (x7 : Int32) (held : Int32) (foundSigns : Int32) (numbers : Nat → Int64) (spread : Nat → Int32) (H : Heap) (locs : List Loc) (ls : Array Slot), b_Pi_find_114 F k_78 flipsOf termsAt count2 keys2 numbers2 size3 back3 x4 x5 x7 held foundSigns numbers spread = some u → va_P (dC, dI) cls [(a_p0, .inr (0, [.ref a_flipsOf, .ref a_termsAt, .ref a_numbers, .ref a_spread, .int drawn, .int held, .int terms, .int widest, .int halvings, .int foundSigns])), (a_flipsOf, .inl (cI, 60, .inl flipsOf)), (a_termsAt, .inl (cI, 256, .inl termsAt)), (a_numbers, .inl (cJ, 256, .inr (.inl numbers))), (a_spread, .inl (cI, 256, .inl spread)), (a_p2, .inr (1, [.ref a_keys2, .ref a_numbers2, .ref z_spareKeys2, .ref z_spareNumbers2, .int count2])), (a_keys2, .inl (cI, 60, .inl keys2)), (a_numbers2, .inl (cI, 60, .inl numbers2)), (a_p3, .inr (2, [.ref z_told3, .ref z_rows3, .ref a_back3, .ref z_spareBack3, .ref z_left3, .int size3, .int kind3])), (a_back3, .inl (cI, 8, .inl back3))] H → va_D A [(a_p0, .inr (0, [.ref a_flipsOf, .ref a_termsAt, .ref a_numbers, .ref a_spread, .int drawn, .int held, .int terms, .int widest, .int halvings, .int foundSigns])), (a_flipsOf, .inl (cI, 60, .inl flipsOf)), (a_termsAt, .inl (cI, 256, .inl termsAt)), (a_numbers, .inl (cJ, 256, .inr (.inl numbers))), (a_spread, .inl (cI, 256, .inl spread)), (a_p2, .inr (1, [.ref a_keys2, .ref a_numbers2, .ref z_spareKeys2, .ref z_spareNumbers2, .int count2])), (a_keys2, .inl (cI, 60, .inl keys2)), (a_numbers2, .inl (cI, 60, .inl numbers2)), (a_p3, .inr (2, [.ref z_told3, .ref z_rows3, .ref a_back3, .ref z_spareBack3, .ref z_left3, .int size3, .int kind3])), (a_back3, .inl (cI, 8, .inl back3))] → va_S A s.heap H locs → lv_has ls 8 [(0, .ref a_p0), (4, .int x4), (5, .int x5), (7, .int x7)] → W p l e (headSpec (Cond.code y_Pi_find prog_2_method_9_code 8 none :: T0) rm_Pi_find).room s m ([.ref a_p0, .int p1, .ref a_p2, .ref a_p3] : List Value).toArray below meth c H locs 0 0 Q (F0 m 114 ls []) := by
    intro k_78 hk_78
    intro x4 x5 x7 held foundSigns numbers spread H locs ls hf hP hD hS hl
    rw [b_Pi_find_114] at hf
    obtain ⟨x7_7, e_x7_7⟩ : ∃ y : Int32, y = x7 + 1 := ⟨_, rfl⟩
    replace hf := nm_eq e_x7_7 hf
    refine lv_iinc (v := x7_7) (lv' := [(7, .int x7_7), (0, .ref a_p0), (4, .int x4), (5, .int x5)]) hx hb d_Pi_find_114 hl (k := 3) rfl (by rw [e_x7_7]; rfl) (by decide) rfl (fun ls hl => ?_)
    refine lv_goto (tgt := 78) hx hb d_Pi_find_117 (by decide) ?_
    exact hk_78 x4 x5 x7_7 held foundSigns numbers spread H locs ls hf hP hD hS (lv_sub hl [1, 2, 3, 0] rfl)
  have B_78 : ∀ (n : Nat), ∀ (x4 : Int32) (x5 : Int32) (x7 : Int32) (held : Int32) (foundSigns : Int32) (numbers : Nat → Int64) (spread : Nat → Int32) (H : Heap) (locs : List Loc) (ls : Array Slot), b_Pi_find_78 F flipsOf termsAt count2 keys2 numbers2 size3 back3 n x4 x5 x7 held foundSigns numbers spread = some u → va_P (dC, dI) cls [(a_p0, .inr (0, [.ref a_flipsOf, .ref a_termsAt, .ref a_numbers, .ref a_spread, .int drawn, .int held, .int terms, .int widest, .int halvings, .int foundSigns])), (a_flipsOf, .inl (cI, 60, .inl flipsOf)), (a_termsAt, .inl (cI, 256, .inl termsAt)), (a_numbers, .inl (cJ, 256, .inr (.inl numbers))), (a_spread, .inl (cI, 256, .inl spread)), (a_p2, .inr (1, [.ref a_keys2, .ref a_numbers2, .ref z_spareKeys2, .ref z_spareNumbers2, .int count2])), (a_keys2, .inl (cI, 60, .inl keys2)), (a_numbers2, .inl (cI, 60, .inl numbers2)), (a_p3, .inr (2, [.ref z_told3, .ref z_rows3, .ref a_back3, .ref z_spareBack3, .ref z_left3, .int size3, .int kind3])), (a_back3, .inl (cI, 8, .inl back3))] H → va_D A [(a_p0, .inr (0, [.ref a_flipsOf, .ref a_termsAt, .ref a_numbers, .ref a_spread, .int drawn, .int held, .int terms, .int widest, .int halvings, .int foundSigns])), (a_flipsOf, .inl (cI, 60, .inl flipsOf)), (a_termsAt, .inl (cI, 256, .inl termsAt)), (a_numbers, .inl (cJ, 256, .inr (.inl numbers))), (a_spread, .inl (cI, 256, .inl spread)), (a_p2, .inr (1, [.ref a_keys2, .ref a_numbers2, .ref z_spareKeys2, .ref z_spareNumbers2, .int count2])), (a_keys2, .inl (cI, 60, .inl keys2)), (a_numbers2, .inl (cI, 60, .inl numbers2)), (a_p3, .inr (2, [.ref z_told3, .ref z_rows3, .ref a_back3, .ref z_spareBack3, .ref z_left3, .int size3, .int kind3])), (a_back3, .inl (cI, 8, .inl back3))] → va_S A s.heap H locs → lv_has ls 8 [(0, .ref a_p0), (4, .int x4), (5, .int x5), (7, .int x7)] → W p l e (headSpec (Cond.code y_Pi_find prog_2_method_9_code 8 none :: T0) rm_Pi_find).room s m ([.ref a_p0, .int p1, .ref a_p2, .ref a_p3] : List Value).toArray below meth c H locs 0 0 Q (F0 m 78 ls []) := by
    intro n
    induction n with
    | zero =>
      intro x4 x5 x7 held foundSigns numbers spread H locs ls hf hP hD hS hl
      exact no_fuel hf
    | succ n ih =>
      intro x4 x5 x7 held foundSigns numbers spread H locs ls hf hP hD hS hl
      rw [b_Pi_find_78] at hf
      refine lv_iload hx hb d_Pi_find_78 (lv_at hl 3 rfl) ?_
      refine lv_iload hx hb d_Pi_find_80 (lv_at hl 1 rfl) ?_
      refine lv_icmp_ge (tgt := 120) hx hb d_Pi_find_82 (by decide) (fun c_4 => ?_) (fun c_4 => ?_)
      · replace hf := if_t c_4 hf
        have hu := Option.some.inj hf
        subst hu
        exact rw_v hQ rfl hP hD hK hS hx hb hr hlocks d_Pi_find_120
      · replace hf := if_f c_4 hf
        refine lv_aload_n hx hb d_Pi_find_85 rfl (lv_at hl 0 rfl) ?_
        refine va_get (D := (dC, dI)) (ci := 0) (v := .ref a_numbers) (C := "FermionMaps$Picture") (T := F_Pi) (N := 10) hx hb ht0 i_Pi hown hK hP 0 rfl rfl 2 (by decide) (ht0 _ m_91) (fun _ h9 => h9) rfl d_Pi_find_86 ?_
        refine lv_iload hx hb d_Pi_find_89 (lv_at hl 3 rfl) ?_
        obtain ⟨hi_5, hf⟩ := ckI_ok hf
        refine va_lald hx hb hK hP 3 1 rfl rfl hi_5 d_Pi_find_91 ?_
        refine lv_lconst (v := 0) hx hb d_Pi_find_92 (by decide) ?_
        refine W.lcmp hx hb d_Pi_find_93 ?_
        refine lv_if_eq (tgt := 114) hx hb d_Pi_find_94 (by decide) (fun c_6 => ?_) (fun c_6 => ?_)
        · replace hf := if_t c_6 hf
          exact B_114 (b_Pi_find_78 F flipsOf termsAt count2 keys2 numbers2 size3 back3 n) ih x4 x5 x7 held foundSigns numbers spread H locs ls hf hP hD hS (lv_sub hl [0, 1, 2, 3] rfl)
        · replace hf := if_f c_6 hf
          refine lv_iload hx hb d_Pi_find_97 (lv_at hl 2 rfl) ?_
          refine lv_if_ne (tgt := 111) hx hb d_Pi_find_99 (by decide) (fun c_8 => ?_) (fun c_8 => ?_)
          · replace hf := if_f c_8 hf
            obtain ⟨x5_9, e_x5_9⟩ : ∃ y : Int32, y = x5 + (-1) := ⟨_, rfl⟩
            replace hf := nm_eq e_x5_9 hf
            refine lv_iinc (v := x5_9) (lv' := [(5, .int x5_9), (0, .ref a_p0), (4, .int x4), (7, .int x7)]) hx hb d_Pi_find_111 hl (k := 2) rfl (by rw [e_x5_9]; rfl) (by decide) rfl (fun ls hl => ?_)
            exact B_114 (b_Pi_find_78 F flipsOf termsAt count2 keys2 numbers2 size3 back3 n) ih x4 x5_9 x7 held foundSigns numbers spread H locs ls hf hP hD hS (lv_sub hl [1, 2, 0, 3] rfl)
          · replace hf := if_t c_8 hf
            refine lv_aload_n hx hb d_Pi_find_102 rfl (lv_at hl 0 rfl) ?_
            refine lv_iload hx hb d_Pi_find_103 (lv_at hl 3 rfl) ?_
            refine va_put (D := (dC, dI)) (ci := 0) (v := .int x7) (ty := .int) (C := "FermionMaps$Picture") (T := F_Pi) (N := 10) hx hb ht0 i_Pi t_Pi t_Pi_ok n_Pi hown hK hP hD hS 0 rfl rfl 9 (by decide) (ht0 _ m_103) (fun _ h9 => h9) rfl (by decide +kernel) rfl rfl (Nat.le_of_ble_eq_true rfl) d_Pi_find_105 (fun H locs hP hD hS => ?_)
            have hP : va_P (dC, dI) cls [(a_p0, .inr (0, [.ref a_flipsOf, .ref a_termsAt, .ref a_numbers, .ref a_spread, .int drawn, .int held, .int terms, .int widest, .int halvings, .int x7])), (a_flipsOf, .inl (cI, 60, .inl flipsOf)), (a_termsAt, .inl (cI, 256, .inl termsAt)), (a_numbers, .inl (cJ, 256, .inr (.inl numbers))), (a_spread, .inl (cI, 256, .inl spread)), (a_p2, .inr (1, [.ref a_keys2, .ref a_numbers2, .ref z_spareKeys2, .ref z_spareNumbers2, .int count2])), (a_keys2, .inl (cI, 60, .inl keys2)), (a_numbers2, .inl (cI, 60, .inl numbers2)), (a_p3, .inr (2, [.ref z_told3, .ref z_rows3, .ref a_back3, .ref z_spareBack3, .ref z_left3, .int size3, .int kind3])), (a_back3, .inl (cI, 8, .inl back3))] H := hP
            have hD : va_D A [(a_p0, .inr (0, [.ref a_flipsOf, .ref a_termsAt, .ref a_numbers, .ref a_spread, .int drawn, .int held, .int terms, .int widest, .int halvings, .int x7])), (a_flipsOf, .inl (cI, 60, .inl flipsOf)), (a_termsAt, .inl (cI, 256, .inl termsAt)), (a_numbers, .inl (cJ, 256, .inr (.inl numbers))), (a_spread, .inl (cI, 256, .inl spread)), (a_p2, .inr (1, [.ref a_keys2, .ref a_numbers2, .ref z_spareKeys2, .ref z_spareNumbers2, .int count2])), (a_keys2, .inl (cI, 60, .inl keys2)), (a_numbers2, .inl (cI, 60, .inl numbers2)), (a_p3, .inr (2, [.ref z_told3, .ref z_rows3, .ref a_back3, .ref z_spareBack3, .ref z_left3, .int size3, .int kind3])), (a_back3, .inl (cI, 8, .inl back3))] := hD
            refine lv_goto (tgt := 120) hx hb d_Pi_find_108 (by decide) ?_
            have hu := Option.some.inj hf
            subst hu
            exact rw_v hQ rfl hP hD hK hS hx hb hr hlocks d_Pi_find_120
  have B_70 : ∀ (x4 : Int32) (x5 : Int32) (held : Int32) (foundSigns : Int32) (numbers : Nat → Int64) (spread : Nat → Int32) (H : Heap) (locs : List Loc) (ls : Array Slot), b_Pi_find_70 F flipsOf termsAt count2 keys2 numbers2 size3 back3 x4 x5 held foundSigns numbers spread = some u → va_P (dC, dI) cls [(a_p0, .inr (0, [.ref a_flipsOf, .ref a_termsAt, .ref a_numbers, .ref a_spread, .int drawn, .int held, .int terms, .int widest, .int halvings, .int foundSigns])), (a_flipsOf, .inl (cI, 60, .inl flipsOf)), (a_termsAt, .inl (cI, 256, .inl termsAt)), (a_numbers, .inl (cJ, 256, .inr (.inl numbers))), (a_spread, .inl (cI, 256, .inl spread)), (a_p2, .inr (1, [.ref a_keys2, .ref a_numbers2, .ref z_spareKeys2, .ref z_spareNumbers2, .int count2])), (a_keys2, .inl (cI, 60, .inl keys2)), (a_numbers2, .inl (cI, 60, .inl numbers2)), (a_p3, .inr (2, [.ref z_told3, .ref z_rows3, .ref a_back3, .ref z_spareBack3, .ref z_left3, .int size3, .int kind3])), (a_back3, .inl (cI, 8, .inl back3))] H → va_D A [(a_p0, .inr (0, [.ref a_flipsOf, .ref a_termsAt, .ref a_numbers, .ref a_spread, .int drawn, .int held, .int terms, .int widest, .int halvings, .int foundSigns])), (a_flipsOf, .inl (cI, 60, .inl flipsOf)), (a_termsAt, .inl (cI, 256, .inl termsAt)), (a_numbers, .inl (cJ, 256, .inr (.inl numbers))), (a_spread, .inl (cI, 256, .inl spread)), (a_p2, .inr (1, [.ref a_keys2, .ref a_numbers2, .ref z_spareKeys2, .ref z_spareNumbers2, .int count2])), (a_keys2, .inl (cI, 60, .inl keys2)), (a_numbers2, .inl (cI, 60, .inl numbers2)), (a_p3, .inr (2, [.ref z_told3, .ref z_rows3, .ref a_back3, .ref z_spareBack3, .ref z_left3, .int size3, .int kind3])), (a_back3, .inl (cI, 8, .inl back3))] → va_S A s.heap H locs → lv_has ls 8 [(0, .ref a_p0), (4, .int x4), (5, .int x5)] → W p l e (headSpec (Cond.code y_Pi_find prog_2_method_9_code 8 none :: T0) rm_Pi_find).room s m ([.ref a_p0, .int p1, .ref a_p2, .ref a_p3] : List Value).toArray below meth c H locs 0 0 Q (F0 m 70 ls []) := by
    intro x4 x5 held foundSigns numbers spread H locs ls hf hP hD hS hl
    rw [b_Pi_find_70] at hf
    refine lv_aload_n hx hb d_Pi_find_70 rfl (lv_at hl 0 rfl) ?_
    refine lv_iconst (v := 0) hx hb d_Pi_find_71 (by decide) ?_
    refine va_put (D := (dC, dI)) (ci := 0) (v := .int 0) (ty := .int) (C := "FermionMaps$Picture") (T := F_Pi) (N := 10) hx hb ht0 i_Pi t_Pi t_Pi_ok n_Pi hown hK hP hD hS 0 rfl rfl 9 (by decide) (ht0 _ m_103) (fun _ h9 => h9) rfl (by decide +kernel) rfl rfl (Nat.le_of_ble_eq_true rfl) d_Pi_find_72 (fun H locs hP hD hS => ?_)
    have hP : va_P (dC, dI) cls [(a_p0, .inr (0, [.ref a_flipsOf, .ref a_termsAt, .ref a_numbers, .ref a_spread, .int drawn, .int held, .int terms, .int widest, .int halvings, .int 0])), (a_flipsOf, .inl (cI, 60, .inl flipsOf)), (a_termsAt, .inl (cI, 256, .inl termsAt)), (a_numbers, .inl (cJ, 256, .inr (.inl numbers))), (a_spread, .inl (cI, 256, .inl spread)), (a_p2, .inr (1, [.ref a_keys2, .ref a_numbers2, .ref z_spareKeys2, .ref z_spareNumbers2, .int count2])), (a_keys2, .inl (cI, 60, .inl keys2)), (a_numbers2, .inl (cI, 60, .inl numbers2)), (a_p3, .inr (2, [.ref z_told3, .ref z_rows3, .ref a_back3, .ref z_spareBack3, .ref z_left3, .int size3, .int kind3])), (a_back3, .inl (cI, 8, .inl back3))] H := hP
    have hD : va_D A [(a_p0, .inr (0, [.ref a_flipsOf, .ref a_termsAt, .ref a_numbers, .ref a_spread, .int drawn, .int held, .int terms, .int widest, .int halvings, .int 0])), (a_flipsOf, .inl (cI, 60, .inl flipsOf)), (a_termsAt, .inl (cI, 256, .inl termsAt)), (a_numbers, .inl (cJ, 256, .inr (.inl numbers))), (a_spread, .inl (cI, 256, .inl spread)), (a_p2, .inr (1, [.ref a_keys2, .ref a_numbers2, .ref z_spareKeys2, .ref z_spareNumbers2, .int count2])), (a_keys2, .inl (cI, 60, .inl keys2)), (a_numbers2, .inl (cI, 60, .inl numbers2)), (a_p3, .inr (2, [.ref z_told3, .ref z_rows3, .ref a_back3, .ref z_spareBack3, .ref z_left3, .int size3, .int kind3])), (a_back3, .inl (cI, 8, .inl back3))] := hD
    refine lv_iconst (v := 0) hx hb d_Pi_find_75 (by decide) ?_
    refine lv_istore (lv' := [(7, .int 0), (0, .ref a_p0), (4, .int x4), (5, .int x5)]) hx hb d_Pi_find_76 hl (by decide) rfl (fun ls hl => ?_)
    exact B_78 F x4 x5 0 held 0 numbers spread H locs ls hf hP hD hS (lv_sub hl [1, 2, 3, 0] rfl)
  have B_53 : ∀ (x4 : Int32) (x5 : Int32) (x6 : Int32) (held : Int32) (foundSigns : Int32) (numbers : Nat → Int64) (spread : Nat → Int32) (H : Heap) (locs : List Loc) (ls : Array Slot), b_Pi_find_53 F flipsOf termsAt count2 keys2 numbers2 size3 back3 x4 x5 x6 held foundSigns numbers spread = some u → va_P (dC, dI) cls [(a_p0, .inr (0, [.ref a_flipsOf, .ref a_termsAt, .ref a_numbers, .ref a_spread, .int drawn, .int held, .int terms, .int widest, .int halvings, .int foundSigns])), (a_flipsOf, .inl (cI, 60, .inl flipsOf)), (a_termsAt, .inl (cI, 256, .inl termsAt)), (a_numbers, .inl (cJ, 256, .inr (.inl numbers))), (a_spread, .inl (cI, 256, .inl spread)), (a_p2, .inr (1, [.ref a_keys2, .ref a_numbers2, .ref z_spareKeys2, .ref z_spareNumbers2, .int count2])), (a_keys2, .inl (cI, 60, .inl keys2)), (a_numbers2, .inl (cI, 60, .inl numbers2)), (a_p3, .inr (2, [.ref z_told3, .ref z_rows3, .ref a_back3, .ref z_spareBack3, .ref z_left3, .int size3, .int kind3])), (a_back3, .inl (cI, 8, .inl back3))] H → va_D A [(a_p0, .inr (0, [.ref a_flipsOf, .ref a_termsAt, .ref a_numbers, .ref a_spread, .int drawn, .int held, .int terms, .int widest, .int halvings, .int foundSigns])), (a_flipsOf, .inl (cI, 60, .inl flipsOf)), (a_termsAt, .inl (cI, 256, .inl termsAt)), (a_numbers, .inl (cJ, 256, .inr (.inl numbers))), (a_spread, .inl (cI, 256, .inl spread)), (a_p2, .inr (1, [.ref a_keys2, .ref a_numbers2, .ref z_spareKeys2, .ref z_spareNumbers2, .int count2])), (a_keys2, .inl (cI, 60, .inl keys2)), (a_numbers2, .inl (cI, 60, .inl numbers2)), (a_p3, .inr (2, [.ref z_told3, .ref z_rows3, .ref a_back3, .ref z_spareBack3, .ref z_left3, .int size3, .int kind3])), (a_back3, .inl (cI, 8, .inl back3))] → va_S A s.heap H locs → lv_has ls 8 [(0, .ref a_p0), (2, .ref a_p2), (3, .ref a_p3), (4, .int x4), (5, .int x5), (6, .int x6)] → W p l e (headSpec (Cond.code y_Pi_find prog_2_method_9_code 8 none :: T0) rm_Pi_find).room s m ([.ref a_p0, .int p1, .ref a_p2, .ref a_p3] : List Value).toArray below meth c H locs 0 0 Q (F0 m 53 ls []) := by
    intro x4 x5 x6 held foundSigns numbers spread H locs ls hf hP hD hS hl
    rw [b_Pi_find_53] at hf
    refine lv_iload hx hb d_Pi_find_53 (lv_at hl 5 rfl) ?_
    refine lv_aload_n hx hb d_Pi_find_55 rfl (lv_at hl 0 rfl) ?_
    refine va_get (D := (dC, dI)) (ci := 0) (v := .int held) (C := "FermionMaps$Picture") (T := F_Pi) (N := 10) hx hb ht0 i_Pi hown hK hP 0 rfl rfl 5 (by decide) (ht0 _ m_95) (fun _ h9 => h9) rfl d_Pi_find_56 ?_
    refine lv_icmp_eq (tgt := 70) hx hb d_Pi_find_59 (by decide) (fun c_3 => ?_) (fun c_3 => ?_)
    · replace hf := if_t c_3 hf
      exact B_70 x4 x5 held foundSigns numbers spread H locs ls hf hP hD hS (lv_sub hl [0, 3, 4] rfl)
    · replace hf := if_f c_3 hf
      refine lv_aload_n hx hb d_Pi_find_62 rfl (lv_at hl 0 rfl) ?_
      refine lv_iload hx hb d_Pi_find_63 (lv_at hl 5 rfl) ?_
      refine lv_aload_n hx hb d_Pi_find_65 rfl (lv_at hl 1 rfl) ?_
      refine lv_aload_n hx hb d_Pi_find_66 rfl (lv_at hl 2 rfl) ?_
      obtain ⟨u_10, h_u_10, hf⟩ := bd hf
      refine wr_v (wr := [(a_termsAt, .inl (cI, 256, .inl termsAt))]) (wrV_run (As := [.int x6, .ref a_p2, .ref a_p3]) (rest := []) ⟨hx, hb, hml, hown, ht0⟩ (c_Pi_hold l dC dI cI cJ a_p0 a_flipsOf a_numbers a_spread a_p2 a_keys2 a_numbers2 a_p3 a_back3 a_termsAt z_spareKeys2 z_spareNumbers2 z_told3 z_rows3 z_spareBack3 z_left3 H.size drawn held terms widest halvings foundSigns flipsOf numbers spread count2 keys2 numbers2 size3 kind3 back3 x6 F u_10 h_u_10) (cwV 3 ht0 (gV m_278 m_279 m_280 m_4 m_281) rfl rfl rfl (by decide +kernel) ⟨Nat.le_of_ble_eq_true rfl, Nat.le_of_ble_eq_true rfl⟩) hK hNW hP hD [0, 1, 3, 4, 5, 6, 7, 8, 9] rfl rfl (by decide) (ci := 0) (q0 := 0) rfl rfl rfl hl.1 rfl (Nat.le_of_ble_eq_true rfl) d_Pi_find_67 ⟨Nat.zero_le _, Nat.zero_le _⟩) hP hD hS hA [0, 1, 3, 4, 5, 6, 7, 8, 9] [2] rfl rfl (by decide) (by decide) (fun w1 H locs hw hP hD hS => ?_)
      obtain rfl := hw
      have hP : va_P (dC, dI) cls [(a_p0, .inr (0, [.ref a_flipsOf, .ref a_termsAt, .ref a_numbers, .ref a_spread, .int drawn, .int u_10.1, .int terms, .int widest, .int halvings, .int foundSigns])), (a_flipsOf, .inl (cI, 60, .inl flipsOf)), (a_termsAt, .inl (cI, 256, .inl termsAt)), (a_numbers, .inl (cJ, 256, .inr (.inl u_10.2.1))), (a_spread, .inl (cI, 256, .inl u_10.2.2)), (a_p2, .inr (1, [.ref a_keys2, .ref a_numbers2, .ref z_spareKeys2, .ref z_spareNumbers2, .int count2])), (a_keys2, .inl (cI, 60, .inl keys2)), (a_numbers2, .inl (cI, 60, .inl numbers2)), (a_p3, .inr (2, [.ref z_told3, .ref z_rows3, .ref a_back3, .ref z_spareBack3, .ref z_left3, .int size3, .int kind3])), (a_back3, .inl (cI, 8, .inl back3))] H := hP.sub [1, 2, 0, 3, 4, 5, 6, 7, 8, 9] rfl
      have hD : va_D A [(a_p0, .inr (0, [.ref a_flipsOf, .ref a_termsAt, .ref a_numbers, .ref a_spread, .int drawn, .int u_10.1, .int terms, .int widest, .int halvings, .int foundSigns])), (a_flipsOf, .inl (cI, 60, .inl flipsOf)), (a_termsAt, .inl (cI, 256, .inl termsAt)), (a_numbers, .inl (cJ, 256, .inr (.inl u_10.2.1))), (a_spread, .inl (cI, 256, .inl u_10.2.2)), (a_p2, .inr (1, [.ref a_keys2, .ref a_numbers2, .ref z_spareKeys2, .ref z_spareNumbers2, .int count2])), (a_keys2, .inl (cI, 60, .inl keys2)), (a_numbers2, .inl (cI, 60, .inl numbers2)), (a_p3, .inr (2, [.ref z_told3, .ref z_rows3, .ref a_back3, .ref z_spareBack3, .ref z_left3, .int size3, .int kind3])), (a_back3, .inl (cI, 8, .inl back3))] := hD.sub [1, 2, 0, 3, 4, 5, 6, 7, 8, 9] (by decide) rfl
      exact B_70 x4 x5 u_10.1 foundSigns u_10.2.1 u_10.2.2 H locs ls hf hP hD hS (lv_sub hl [0, 3, 4] rfl)
  have B_14 : ∀ (n : Nat), ∀ (x4 : Int32) (x5 : Int32) (x6 : Int32) (held : Int32) (foundSigns : Int32) (numbers : Nat → Int64) (spread : Nat → Int32) (H : Heap) (locs : List Loc) (ls : Array Slot), b_Pi_find_14 F flipsOf termsAt count2 keys2 numbers2 size3 back3 n x4 x5 x6 held foundSigns numbers spread = some u → va_P (dC, dI) cls [(a_p0, .inr (0, [.ref a_flipsOf, .ref a_termsAt, .ref a_numbers, .ref a_spread, .int drawn, .int held, .int terms, .int widest, .int halvings, .int foundSigns])), (a_flipsOf, .inl (cI, 60, .inl flipsOf)), (a_termsAt, .inl (cI, 256, .inl termsAt)), (a_numbers, .inl (cJ, 256, .inr (.inl numbers))), (a_spread, .inl (cI, 256, .inl spread)), (a_p2, .inr (1, [.ref a_keys2, .ref a_numbers2, .ref z_spareKeys2, .ref z_spareNumbers2, .int count2])), (a_keys2, .inl (cI, 60, .inl keys2)), (a_numbers2, .inl (cI, 60, .inl numbers2)), (a_p3, .inr (2, [.ref z_told3, .ref z_rows3, .ref a_back3, .ref z_spareBack3, .ref z_left3, .int size3, .int kind3])), (a_back3, .inl (cI, 8, .inl back3))] H → va_D A [(a_p0, .inr (0, [.ref a_flipsOf, .ref a_termsAt, .ref a_numbers, .ref a_spread, .int drawn, .int held, .int terms, .int widest, .int halvings, .int foundSigns])), (a_flipsOf, .inl (cI, 60, .inl flipsOf)), (a_termsAt, .inl (cI, 256, .inl termsAt)), (a_numbers, .inl (cJ, 256, .inr (.inl numbers))), (a_spread, .inl (cI, 256, .inl spread)), (a_p2, .inr (1, [.ref a_keys2, .ref a_numbers2, .ref z_spareKeys2, .ref z_spareNumbers2, .int count2])), (a_keys2, .inl (cI, 60, .inl keys2)), (a_numbers2, .inl (cI, 60, .inl numbers2)), (a_p3, .inr (2, [.ref z_told3, .ref z_rows3, .ref a_back3, .ref z_spareBack3, .ref z_left3, .int size3, .int kind3])), (a_back3, .inl (cI, 8, .inl back3))] → va_S A s.heap H locs → lv_has ls 8 [(0, .ref a_p0), (2, .ref a_p2), (3, .ref a_p3), (4, .int x4), (5, .int x5), (6, .int x6)] → W p l e (headSpec (Cond.code y_Pi_find prog_2_method_9_code 8 none :: T0) rm_Pi_find).room s m ([.ref a_p0, .int p1, .ref a_p2, .ref a_p3] : List Value).toArray below meth c H locs 0 0 Q (F0 m 14 ls []) := by
    intro n
    induction n with
    | zero =>
      intro x4 x5 x6 held foundSigns numbers spread H locs ls hf hP hD hS hl
      exact no_fuel hf
    | succ n ih =>
      intro x4 x5 x6 held foundSigns numbers spread H locs ls hf hP hD hS hl
      rw [b_Pi_find_14] at hf
      refine lv_iload hx hb d_Pi_find_14 (lv_at hl 5 rfl) ?_
      refine lv_iload hx hb d_Pi_find_16 (lv_at hl 3 rfl) ?_
      refine lv_iconst (v := 1) hx hb d_Pi_find_18 (by decide) ?_
      refine lv_isub hx hb d_Pi_find_19 ?_
      refine lv_icmp_ge (tgt := 53) hx hb d_Pi_find_20 (by decide) (fun c_2 => ?_) (fun c_2 => ?_)
      · replace hf := if_t c_2 hf
        exact B_53 x4 x5 x6 held foundSigns numbers spread H locs ls hf hP hD hS (lv_sub hl [0, 1, 2, 3, 4, 5] rfl)
      · replace hf := if_f c_2 hf
        refine lv_iload hx hb d_Pi_find_23 (lv_at hl 4 rfl) ?_
        refine lv_aload_n hx hb d_Pi_find_25 rfl (lv_at hl 0 rfl) ?_
        refine va_get (D := (dC, dI)) (ci := 0) (v := .ref a_termsAt) (C := "FermionMaps$Picture") (T := F_Pi) (N := 10) hx hb ht0 i_Pi hown hK hP 0 rfl rfl 1 (by decide) (ht0 _ m_90) (fun _ h9 => h9) rfl d_Pi_find_26 ?_
        refine lv_iload hx hb d_Pi_find_29 (lv_at hl 5 rfl) ?_
        obtain ⟨hi_11, hf⟩ := ckI_ok hf
        refine va_iald hx hb hK hP 2 0 rfl rfl hi_11 d_Pi_find_31 ?_
        refine lv_icmp_lt (tgt := 53) hx hb d_Pi_find_32 (by decide) (fun c_12 => ?_) (fun c_12 => ?_)
        · replace hf := if_t c_12 hf
          exact B_53 x4 x5 x6 held foundSigns numbers spread H locs ls hf hP hD hS (lv_sub hl [0, 1, 2, 3, 4, 5] rfl)
        · replace hf := if_f c_12 hf
          refine lv_iload hx hb d_Pi_find_35 (lv_at hl 4 rfl) ?_
          refine lv_aload_n hx hb d_Pi_find_37 rfl (lv_at hl 0 rfl) ?_
          refine va_get (D := (dC, dI)) (ci := 0) (v := .ref a_termsAt) (C := "FermionMaps$Picture") (T := F_Pi) (N := 10) hx hb ht0 i_Pi hown hK hP 0 rfl rfl 1 (by decide) (ht0 _ m_90) (fun _ h9 => h9) rfl d_Pi_find_38 ?_
          refine lv_iload hx hb d_Pi_find_41 (lv_at hl 5 rfl) ?_
          obtain ⟨hi_13, hf⟩ := ckI_ok hf
          refine va_iald hx hb hK hP 2 0 rfl rfl hi_13 d_Pi_find_43 ?_
          refine lv_isub hx hb d_Pi_find_44 ?_
          refine lv_topi (fun x5_14 e_x5_14 => ?_)
          replace hf := nm_eq e_x5_14 hf
          refine lv_istore (lv' := [(5, .int x5_14), (0, .ref a_p0), (2, .ref a_p2), (3, .ref a_p3), (4, .int x4), (6, .int x6)]) hx hb d_Pi_find_45 hl (by decide) rfl (fun ls hl => ?_)
          obtain ⟨x6_15, e_x6_15⟩ : ∃ y : Int32, y = x6 + 1 := ⟨_, rfl⟩
          replace hf := nm_eq e_x6_15 hf
          refine lv_iinc (v := x6_15) (lv' := [(6, .int x6_15), (5, .int x5_14), (0, .ref a_p0), (2, .ref a_p2), (3, .ref a_p3), (4, .int x4)]) hx hb d_Pi_find_47 hl (k := 5) rfl (by rw [e_x6_15]; rfl) (by decide) rfl (fun ls hl => ?_)
          refine lv_goto (tgt := 14) hx hb d_Pi_find_50 (by decide) ?_
          exact ih x4 x5_14 x6_15 held foundSigns numbers spread H locs ls hf hP hD hS (lv_sub hl [2, 3, 4, 5, 1, 0] rfl)
  rw [f_Pi_find] at hf
  refine lv_iconst (v := 1) hx hb d_Pi_find_0 (by decide) ?_
  refine lv_aload_n hx hb d_Pi_find_1 rfl (lv_at hl 3 rfl) ?_
  refine va_get (D := (dC, dI)) (ci := 2) (v := .int size3) (C := "FermionMaps$Wiring") (T := F_Wi) (N := 7) hx hb ht0 i_Wi hown hK hP 8 rfl rfl 5 (by decide) (ht0 _ m_64) (fun _ h9 => h9) rfl d_Pi_find_2 ?_
  refine lv_ishl hx hb d_Pi_find_5 ?_
  refine lv_topi (fun x4_1 e_x4_1 => ?_)
  replace hf := nm_eq e_x4_1 hf
  refine lv_istore (lv' := [(4, .int x4_1), (0, .ref a_p0), (1, .int p1), (2, .ref a_p2), (3, .ref a_p3)]) hx hb d_Pi_find_6 hl (by decide) rfl (fun ls hl => ?_)
  refine lv_iload_n hx hb d_Pi_find_8 rfl (lv_at hl 2 rfl) ?_
  refine lv_istore (lv' := [(5, .int p1), (4, .int x4_1), (0, .ref a_p0), (1, .int p1), (2, .ref a_p2), (3, .ref a_p3)]) hx hb d_Pi_find_9 hl (by decide) rfl (fun ls hl => ?_)
  refine lv_iconst (v := 0) hx hb d_Pi_find_11 (by decide) ?_
  refine lv_istore (lv' := [(6, .int 0), (5, .int p1), (4, .int x4_1), (0, .ref a_p0), (1, .int p1), (2, .ref a_p2), (3, .ref a_p3)]) hx hb d_Pi_find_12 hl (by decide) rfl (fun ls hl => ?_)
  exact B_14 F x4_1 p1 0 held foundSigns numbers spread s.heap [] ls hf hP hD hS (lv_sub hl [3, 5, 6, 2, 1, 0] rfl)

/-! FermionMaps$Picture.foundNumber(I)J -/
def f_Pi_foundNumber (F : Nat) (halvings : Int32) (foundSigns : Int32) (numbers : Nat → Int64) (p1 : Int32) : Option (Int64) :=
  ckI foundSigns 256 <|
  some ((((numbers foundSigns.toNatClampNeg) <<< (halvings.toInt64 &&& 63)) >>> (p1.toInt64 &&& 63)))
abbrev rm_Pi_foundNumber : Room := { frames := 0, cells := 0, slots := 0, locals := 0 }
set_option maxHeartbeats 4000000 in
set_option maxRecDepth 100000 in
theorem c_Pi_foundNumber (l : Launch) (dC : Nat → ClassId) (dI : Nat → Nat → Nat) (cI cJ : ClassId) (a_p0 a_numbers z_flipsOf z_termsAt z_spread : Nat) (drawn : Int32) (held : Int32) (terms : Int32) (widest : Int32) (halvings : Int32) (foundSigns : Int32) (numbers : Nat → Int64) (p1 : Int32) (F : Nat) (u : Int64) (hf : f_Pi_foundNumber F halvings foundSigns numbers p1 = some u) : Met l y_Pi_foundNumber (Cond.code y_Pi_foundNumber prog_2_method_10_code 2 (some .long) :: T0) rm_Pi_foundNumber (va_Pc [.ref a_p0, .int p1] (Wr (dC, dI) [(a_p0, .inr (0, [.ref z_flipsOf, .ref z_termsAt, .ref a_numbers, .ref z_spread, .int drawn, .int held, .int terms, .int widest, .int halvings, .int foundSigns])), (a_numbers, .inl (cJ, 256, .inr (.inl numbers)))] [(cI, .int), (cJ, .long)])) (vp_Sl (fun r => r = u)) 0 0 (fun _ => False) := by
  refine Met.ofW (cc := prog_2_method_10_code) (maxL := 2) (ret := (some .long)) (by decide) rfl ?_
  intro p e s m args below meth c s₁ B hml hv
  obtain ⟨rfl, hP, hK, hNW⟩ := hv
  have hx := B.exec
  have hb := B.bytes
  have hr := B.returns
  have hts := atoms_spec (ws := Cond.code y_Pi_foundNumber prog_2_method_10_code 2 (some .long) :: T0) B.pre
  have ht0 : ∀ w ∈ T0, w.before ([.ref a_p0, .int p1] : List Value).toArray s = true := fun w h => hts w (List.mem_cons_of_mem _ h)
  have hown : s.vm.findClass "FermionMaps$Picture" = some m.cls := findClass_of_methodNamed B.named
  have hlocks := B.notSynchronized
  have hl := lv_entry ([.ref a_p0, .int p1]) (n := 2) (Nat.le_of_ble_eq_true rfl)
  rw [lg_entry_eq]
  generalize (lg_sl ([.ref a_p0, .int p1]) ++ List.replicate (2 - (lg_sl ([.ref a_p0, .int p1])).length) Slot.unset).toArray = ls at hl ⊢
  have hl : lv_has ls 2 [(0, .ref a_p0), (1, .int p1)] := hl
  refine W.nameQ (fun Q hQ => ?_)
  rw [f_Pi_foundNumber] at hf
  refine lv_aload_n hx hb d_Pi_foundNumber_0 rfl (lv_at hl 0 rfl) ?_
  refine va_get (D := (dC, dI)) (ci := 0) (v := .ref a_numbers) (C := "FermionMaps$Picture") (T := F_Pi) (N := 10) hx hb ht0 i_Pi hown hK hP 0 rfl rfl 2 (by decide) (ht0 _ m_91) (fun _ h9 => h9) rfl d_Pi_foundNumber_1 ?_
  refine lv_aload_n hx hb d_Pi_foundNumber_4 rfl (lv_at hl 0 rfl) ?_
  refine va_get (D := (dC, dI)) (ci := 0) (v := .int foundSigns) (C := "FermionMaps$Picture") (T := F_Pi) (N := 10) hx hb ht0 i_Pi hown hK hP 0 rfl rfl 9 (by decide) (ht0 _ m_103) (fun _ h9 => h9) rfl d_Pi_foundNumber_5 ?_
  obtain ⟨hi_1, hf⟩ := ckI_ok hf
  refine va_lald hx hb hK hP 1 1 rfl rfl hi_1 d_Pi_foundNumber_8 ?_
  refine lv_aload_n hx hb d_Pi_foundNumber_9 rfl (lv_at hl 0 rfl) ?_
  refine va_get (D := (dC, dI)) (ci := 0) (v := .int halvings) (C := "FermionMaps$Picture") (T := F_Pi) (N := 10) hx hb ht0 i_Pi hown hK hP 0 rfl rfl 8 (by decide) (ht0 _ m_101) (fun _ h9 => h9) rfl d_Pi_foundNumber_10 ?_
  refine lv_lshl (v := ((numbers foundSigns.toNatClampNeg) <<< (halvings.toInt64 &&& 63))) hx hb d_Pi_foundNumber_13 rfl ?_
  refine lv_iload_n hx hb d_Pi_foundNumber_14 rfl (lv_at hl 1 rfl) ?_
  refine lv_lshr (v := (((numbers foundSigns.toNatClampNeg) <<< (halvings.toInt64 &&& 63)) >>> (p1.toInt64 &&& 63))) hx hb d_Pi_foundNumber_15 rfl ?_
  have hu := Option.some.inj hf
  subst hu
  exact rt_l hQ rfl hx hb hr hlocks d_Pi_foundNumber_16
