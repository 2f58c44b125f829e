theorem d_Su_seek_0 : decode prog_3_method_12_code 0 = .ok (.iload_n 1, 1) := by decide +kernel
theorem d_Su_seek_1 : decode prog_3_method_12_code 1 = .ok (.istore 4, 2) := by decide +kernel
theorem d_Su_seek_3 : decode prog_3_method_12_code 3 = .ok (.iload 4, 2) := by decide +kernel
theorem d_Su_seek_5 : decode prog_3_method_12_code 5 = .ok (.aload_n 0, 1) := by decide +kernel
theorem d_Su_seek_6 : decode prog_3_method_12_code 6 = .ok (.getfield 24, 3) := by decide +kernel
theorem d_Su_seek_9 : decode prog_3_method_12_code 9 = .ok (.if_icmp .ge 22, 3) := by decide +kernel
theorem d_Su_seek_12 : decode prog_3_method_12_code 12 = .ok (.aload_n 0, 1) := by decide +kernel
theorem d_Su_seek_13 : decode prog_3_method_12_code 13 = .ok (.getfield 9, 3) := by decide +kernel
theorem d_Su_seek_16 : decode prog_3_method_12_code 16 = .ok (.iload 4, 2) := by decide +kernel
theorem d_Su_seek_18 : decode prog_3_method_12_code 18 = .ok (.iaload, 1) := by decide +kernel
theorem d_Su_seek_19 : decode prog_3_method_12_code 19 = .ok (.iload_n 2, 1) := by decide +kernel
theorem d_Su_seek_20 : decode prog_3_method_12_code 20 = .ok (.iand, 1) := by decide +kernel
theorem d_Su_seek_21 : decode prog_3_method_12_code 21 = .ok (.iload_n 3, 1) := by decide +kernel
theorem d_Su_seek_22 : decode prog_3_method_12_code 22 = .ok (.if_icmp .eq 9, 3) := by decide +kernel
theorem d_Su_seek_25 : decode prog_3_method_12_code 25 = .ok (.iinc 4 1, 3) := by decide +kernel
theorem d_Su_seek_28 : decode prog_3_method_12_code 28 = .ok (.goto (-25), 3) := by decide +kernel
theorem d_Su_seek_31 : decode prog_3_method_12_code 31 = .ok (.iload 4, 2) := by decide +kernel
theorem d_Su_seek_33 : decode prog_3_method_12_code 33 = .ok (.ireturn, 1) := by decide +kernel
theorem d_Su_useSpare_0 : decode prog_3_method_14_code 0 = .ok (.aload_n 0, 1) := by decide +kernel
theorem d_Su_useSpare_1 : decode prog_3_method_14_code 1 = .ok (.getfield 9, 3) := by decide +kernel
theorem d_Su_useSpare_4 : decode prog_3_method_14_code 4 = .ok (.astore_n 2, 1) := by decide +kernel
theorem d_Su_useSpare_5 : decode prog_3_method_14_code 5 = .ok (.aload_n 0, 1) := by decide +kernel
theorem d_Su_useSpare_6 : decode prog_3_method_14_code 6 = .ok (.getfield 15, 3) := by decide +kernel
theorem d_Su_useSpare_9 : decode prog_3_method_14_code 9 = .ok (.astore_n 3, 1) := by decide +kernel
theorem d_Su_useSpare_10 : decode prog_3_method_14_code 10 = .ok (.aload_n 0, 1) := by decide +kernel
theorem d_Su_useSpare_11 : decode prog_3_method_14_code 11 = .ok (.aload_n 0, 1) := by decide +kernel
theorem d_Su_useSpare_12 : decode prog_3_method_14_code 12 = .ok (.getfield 18, 3) := by decide +kernel
theorem d_Su_useSpare_15 : decode prog_3_method_14_code 15 = .ok (.putfield 9, 3) := by decide +kernel
theorem d_Su_useSpare_18 : decode prog_3_method_14_code 18 = .ok (.aload_n 0, 1) := by decide +kernel
theorem d_Su_useSpare_19 : decode prog_3_method_14_code 19 = .ok (.aload_n 0, 1) := by decide +kernel
theorem d_Su_useSpare_20 : decode prog_3_method_14_code 20 = .ok (.getfield 21, 3) := by decide +kernel
theorem d_Su_useSpare_23 : decode prog_3_method_14_code 23 = .ok (.putfield 15, 3) := by decide +kernel
theorem d_Su_useSpare_26 : decode prog_3_method_14_code 26 = .ok (.aload_n 0, 1) := by decide +kernel
theorem d_Su_useSpare_27 : decode prog_3_method_14_code 27 = .ok (.aload_n 2, 1) := by decide +kernel
theorem d_Su_useSpare_28 : decode prog_3_method_14_code 28 = .ok (.putfield 18, 3) := by decide +kernel
theorem d_Su_useSpare_31 : decode prog_3_method_14_code 31 = .ok (.aload_n 0, 1) := by decide +kernel
theorem d_Su_useSpare_32 : decode prog_3_method_14_code 32 = .ok (.aload_n 3, 1) := by decide +kernel
theorem d_Su_useSpare_33 : decode prog_3_method_14_code 33 = .ok (.putfield 21, 3) := by decide +kernel
theorem d_Su_useSpare_36 : decode prog_3_method_14_code 36 = .ok (.aload_n 0, 1) := by decide +kernel
theorem d_Su_useSpare_37 : decode prog_3_method_14_code 37 = .ok (.iload_n 1, 1) := by decide +kernel
theorem d_Su_useSpare_38 : decode prog_3_method_14_code 38 = .ok (.putfield 24, 3) := by decide +kernel
theorem d_Su_useSpare_41 : decode prog_3_method_14_code 41 = .ok (.return_, 1) := by decide +kernel
theorem d_Su_signed_0 : decode prog_3_method_13_code 0 = .ok (.aload_n 0, 1) := by decide +kernel
theorem d_Su_signed_1 : decode prog_3_method_13_code 1 = .ok (.getfield 9, 3) := by decide +kernel
theorem d_Su_signed_4 : decode prog_3_method_13_code 4 = .ok (.iload_n 1, 1) := by decide +kernel
theorem d_Su_signed_5 : decode prog_3_method_13_code 5 = .ok (.iaload, 1) := by decide +kernel
theorem d_Su_signed_6 : decode prog_3_method_13_code 6 = .ok (.iload_n 2, 1) := by decide +kernel
theorem d_Su_signed_7 : decode prog_3_method_13_code 7 = .ok (.iand, 1) := by decide +kernel
theorem d_Su_signed_8 : decode prog_3_method_13_code 8 = .ok (.invokestatic 43, 3) := by decide +kernel
theorem d_Su_signed_11 : decode prog_3_method_13_code 11 = .ok (.ifCond .eq 13, 3) := by decide +kernel
theorem d_Su_signed_14 : decode prog_3_method_13_code 14 = .ok (.aload_n 0, 1) := by decide +kernel
theorem d_Su_signed_15 : decode prog_3_method_13_code 15 = .ok (.getfield 15, 3) := by decide +kernel
theorem d_Su_signed_18 : decode prog_3_method_13_code 18 = .ok (.iload_n 1, 1) := by decide +kernel
theorem d_Su_signed_19 : decode prog_3_method_13_code 19 = .ok (.iaload, 1) := by decide +kernel
theorem d_Su_signed_20 : decode prog_3_method_13_code 20 = .ok (.ineg, 1) := by decide +kernel
theorem d_Su_signed_21 : decode prog_3_method_13_code 21 = .ok (.goto 9, 3) := by decide +kernel
theorem d_Su_signed_24 : decode prog_3_method_13_code 24 = .ok (.aload_n 0, 1) := by decide +kernel
theorem d_Su_signed_25 : decode prog_3_method_13_code 25 = .ok (.getfield 15, 3) := by decide +kernel
theorem d_Su_signed_28 : decode prog_3_method_13_code 28 = .ok (.iload_n 1, 1) := by decide +kernel
theorem d_Su_signed_29 : decode prog_3_method_13_code 29 = .ok (.iaload, 1) := by decide +kernel
theorem d_Su_signed_30 : decode prog_3_method_13_code 30 = .ok (.ireturn, 1) := by decide +kernel
theorem d_Su_merge_0 : decode prog_3_method_11_code 0 = .ok (.iconst 0, 1) := by decide +kernel
theorem d_Su_merge_1 : decode prog_3_method_11_code 1 = .ok (.istore 5, 2) := by decide +kernel
theorem d_Su_merge_3 : decode prog_3_method_11_code 3 = .ok (.aload_n 0, 1) := by decide +kernel
theorem d_Su_merge_4 : decode prog_3_method_11_code 4 = .ok (.iconst 0, 1) := by decide +kernel
theorem d_Su_merge_5 : decode prog_3_method_11_code 5 = .ok (.iload_n 1, 1) := by decide +kernel
theorem d_Su_merge_6 : decode prog_3_method_11_code 6 = .ok (.iconst 0, 1) := by decide +kernel
theorem d_Su_merge_7 : decode prog_3_method_11_code 7 = .ok (.invokevirtual 70, 3) := by decide +kernel
theorem d_Su_merge_10 : decode prog_3_method_11_code 10 = .ok (.istore 6, 2) := by decide +kernel
theorem d_Su_merge_12 : decode prog_3_method_11_code 12 = .ok (.iload_n 3, 1) := by decide +kernel
theorem d_Su_merge_13 : decode prog_3_method_11_code 13 = .ok (.ifCond .ne 10, 3) := by decide +kernel
theorem d_Su_merge_16 : decode prog_3_method_11_code 16 = .ok (.aload_n 0, 1) := by decide +kernel
theorem d_Su_merge_17 : decode prog_3_method_11_code 17 = .ok (.getfield 24, 3) := by decide +kernel
theorem d_Su_merge_20 : decode prog_3_method_11_code 20 = .ok (.goto 10, 3) := by decide +kernel
theorem d_Su_merge_23 : decode prog_3_method_11_code 23 = .ok (.aload_n 0, 1) := by decide +kernel
theorem d_Su_merge_24 : decode prog_3_method_11_code 24 = .ok (.iconst 0, 1) := by decide +kernel
theorem d_Su_merge_25 : decode prog_3_method_11_code 25 = .ok (.iload_n 3, 1) := by decide +kernel
theorem d_Su_merge_26 : decode prog_3_method_11_code 26 = .ok (.iload_n 3, 1) := by decide +kernel
theorem d_Su_merge_27 : decode prog_3_method_11_code 27 = .ok (.invokevirtual 70, 3) := by decide +kernel
theorem d_Su_merge_30 : decode prog_3_method_11_code 30 = .ok (.istore 7, 2) := by decide +kernel
theorem d_Su_merge_32 : decode prog_3_method_11_code 32 = .ok (.iconst 0, 1) := by decide +kernel
theorem d_Su_merge_33 : decode prog_3_method_11_code 33 = .ok (.istore 8, 2) := by decide +kernel
theorem d_Su_merge_35 : decode prog_3_method_11_code 35 = .ok (.iload 8, 2) := by decide +kernel
theorem d_Su_merge_37 : decode prog_3_method_11_code 37 = .ok (.bipush 120, 2) := by decide +kernel
theorem d_Su_merge_39 : decode prog_3_method_11_code 39 = .ok (.if_icmp .ge 198, 3) := by decide +kernel
theorem d_Su_merge_42 : decode prog_3_method_11_code 42 = .ok (.iload 6, 2) := by decide +kernel
theorem d_Su_merge_44 : decode prog_3_method_11_code 44 = .ok (.aload_n 0, 1) := by decide +kernel
theorem d_Su_merge_45 : decode prog_3_method_11_code 45 = .ok (.getfield 24, 3) := by decide +kernel
theorem d_Su_merge_48 : decode prog_3_method_11_code 48 = .ok (.if_icmp .lt 15, 3) := by decide +kernel
theorem d_Su_merge_51 : decode prog_3_method_11_code 51 = .ok (.iload 7, 2) := by decide +kernel
theorem d_Su_merge_53 : decode prog_3_method_11_code 53 = .ok (.aload_n 0, 1) := by decide +kernel
theorem d_Su_merge_54 : decode prog_3_method_11_code 54 = .ok (.getfield 24, 3) := by decide +kernel
theorem d_Su_merge_57 : decode prog_3_method_11_code 57 = .ok (.if_icmp .lt 6, 3) := by decide +kernel
theorem d_Su_merge_60 : decode prog_3_method_11_code 60 = .ok (.goto 177, 3) := by decide +kernel
theorem d_Su_merge_63 : decode prog_3_method_11_code 63 = .ok (.iload 6, 2) := by decide +kernel
theorem d_Su_merge_65 : decode prog_3_method_11_code 65 = .ok (.aload_n 0, 1) := by decide +kernel
theorem d_Su_merge_66 : decode prog_3_method_11_code 66 = .ok (.getfield 24, 3) := by decide +kernel
theorem d_Su_merge_69 : decode prog_3_method_11_code 69 = .ok (.if_icmp .ge 15, 3) := by decide +kernel
theorem d_Su_merge_72 : decode prog_3_method_11_code 72 = .ok (.aload_n 0, 1) := by decide +kernel
theorem d_Su_merge_73 : decode prog_3_method_11_code 73 = .ok (.getfield 9, 3) := by decide +kernel
theorem d_Su_merge_76 : decode prog_3_method_11_code 76 = .ok (.iload 6, 2) := by decide +kernel
theorem d_Su_merge_78 : decode prog_3_method_11_code 78 = .ok (.iaload, 1) := by decide +kernel
theorem d_Su_merge_79 : decode prog_3_method_11_code 79 = .ok (.iload_n 1, 1) := by decide +kernel
theorem d_Su_merge_80 : decode prog_3_method_11_code 80 = .ok (.iadd, 1) := by decide +kernel
theorem d_Su_merge_81 : decode prog_3_method_11_code 81 = .ok (.goto 5, 3) := by decide +kernel
theorem d_Su_merge_84 : decode prog_3_method_11_code 84 = .ok (.ldc 74, 2) := by decide +kernel
theorem d_Su_merge_86 : decode prog_3_method_11_code 86 = .ok (.istore 9, 2) := by decide +kernel
theorem d_Su_merge_88 : decode prog_3_method_11_code 88 = .ok (.iload 7, 2) := by decide +kernel
theorem d_Su_merge_90 : decode prog_3_method_11_code 90 = .ok (.aload_n 0, 1) := by decide +kernel
theorem d_Su_merge_91 : decode prog_3_method_11_code 91 = .ok (.getfield 24, 3) := by decide +kernel
theorem d_Su_merge_94 : decode prog_3_method_11_code 94 = .ok (.if_icmp .ge 15, 3) := by decide +kernel
theorem d_Su_merge_97 : decode prog_3_method_11_code 97 = .ok (.aload_n 0, 1) := by decide +kernel
theorem d_Su_merge_98 : decode prog_3_method_11_code 98 = .ok (.getfield 9, 3) := by decide +kernel
theorem d_Su_merge_101 : decode prog_3_method_11_code 101 = .ok (.iload 7, 2) := by decide +kernel
theorem d_Su_merge_103 : decode prog_3_method_11_code 103 = .ok (.iaload, 1) := by decide +kernel
theorem d_Su_merge_104 : decode prog_3_method_11_code 104 = .ok (.iload_n 3, 1) := by decide +kernel
theorem d_Su_merge_105 : decode prog_3_method_11_code 105 = .ok (.isub, 1) := by decide +kernel
theorem d_Su_merge_106 : decode prog_3_method_11_code 106 = .ok (.goto 5, 3) := by decide +kernel
theorem d_Su_merge_109 : decode prog_3_method_11_code 109 = .ok (.ldc 74, 2) := by decide +kernel
theorem d_Su_merge_111 : decode prog_3_method_11_code 111 = .ok (.istore 10, 2) := by decide +kernel
theorem d_Su_merge_113 : decode prog_3_method_11_code 113 = .ok (.iload 9, 2) := by decide +kernel
theorem d_Su_merge_115 : decode prog_3_method_11_code 115 = .ok (.iload 10, 2) := by decide +kernel
theorem d_Su_merge_117 : decode prog_3_method_11_code 117 = .ok (.invokestatic 75, 3) := by decide +kernel
theorem d_Su_merge_120 : decode prog_3_method_11_code 120 = .ok (.istore 11, 2) := by decide +kernel
theorem d_Su_merge_122 : decode prog_3_method_11_code 122 = .ok (.iconst 0, 1) := by decide +kernel
theorem d_Su_merge_123 : decode prog_3_method_11_code 123 = .ok (.istore 12, 2) := by decide +kernel
theorem d_Su_merge_125 : decode prog_3_method_11_code 125 = .ok (.iload 9, 2) := by decide +kernel
theorem d_Su_merge_127 : decode prog_3_method_11_code 127 = .ok (.iload 11, 2) := by decide +kernel
theorem d_Su_merge_129 : decode prog_3_method_11_code 129 = .ok (.if_icmp .ne 27, 3) := by decide +kernel
theorem d_Su_merge_132 : decode prog_3_method_11_code 132 = .ok (.iload 12, 2) := by decide +kernel
theorem d_Su_merge_134 : decode prog_3_method_11_code 134 = .ok (.aload_n 0, 1) := by decide +kernel
theorem d_Su_merge_135 : decode prog_3_method_11_code 135 = .ok (.iload 6, 2) := by decide +kernel
theorem d_Su_merge_137 : decode prog_3_method_11_code 137 = .ok (.iload_n 2, 1) := by decide +kernel
theorem d_Su_merge_138 : decode prog_3_method_11_code 138 = .ok (.invokevirtual 81, 3) := by decide +kernel
theorem d_Su_merge_141 : decode prog_3_method_11_code 141 = .ok (.iadd, 1) := by decide +kernel
theorem d_Su_merge_142 : decode prog_3_method_11_code 142 = .ok (.istore 12, 2) := by decide +kernel
theorem d_Su_merge_144 : decode prog_3_method_11_code 144 = .ok (.aload_n 0, 1) := by decide +kernel
theorem d_Su_merge_145 : decode prog_3_method_11_code 145 = .ok (.iload 6, 2) := by decide +kernel
theorem d_Su_merge_147 : decode prog_3_method_11_code 147 = .ok (.iconst 1, 1) := by decide +kernel
theorem d_Su_merge_148 : decode prog_3_method_11_code 148 = .ok (.iadd, 1) := by decide +kernel
theorem d_Su_merge_149 : decode prog_3_method_11_code 149 = .ok (.iload_n 1, 1) := by decide +kernel
theorem d_Su_merge_150 : decode prog_3_method_11_code 150 = .ok (.iconst 0, 1) := by decide +kernel
theorem d_Su_merge_151 : decode prog_3_method_11_code 151 = .ok (.invokevirtual 70, 3) := by decide +kernel
theorem d_Su_merge_154 : decode prog_3_method_11_code 154 = .ok (.istore 6, 2) := by decide +kernel
theorem d_Su_merge_156 : decode prog_3_method_11_code 156 = .ok (.iload 10, 2) := by decide +kernel
theorem d_Su_merge_158 : decode prog_3_method_11_code 158 = .ok (.iload 11, 2) := by decide +kernel
theorem d_Su_merge_160 : decode prog_3_method_11_code 160 = .ok (.if_icmp .ne 28, 3) := by decide +kernel
theorem d_Su_merge_163 : decode prog_3_method_11_code 163 = .ok (.iload 12, 2) := by decide +kernel
theorem d_Su_merge_165 : decode prog_3_method_11_code 165 = .ok (.aload_n 0, 1) := by decide +kernel
theorem d_Su_merge_166 : decode prog_3_method_11_code 166 = .ok (.iload 7, 2) := by decide +kernel
theorem d_Su_merge_168 : decode prog_3_method_11_code 168 = .ok (.iload 4, 2) := by decide +kernel
theorem d_Su_merge_170 : decode prog_3_method_11_code 170 = .ok (.invokevirtual 81, 3) := by decide +kernel
theorem d_Su_merge_173 : decode prog_3_method_11_code 173 = .ok (.iadd, 1) := by decide +kernel
theorem d_Su_merge_174 : decode prog_3_method_11_code 174 = .ok (.istore 12, 2) := by decide +kernel
theorem d_Su_merge_176 : decode prog_3_method_11_code 176 = .ok (.aload_n 0, 1) := by decide +kernel
theorem d_Su_merge_177 : decode prog_3_method_11_code 177 = .ok (.iload 7, 2) := by decide +kernel
theorem d_Su_merge_179 : decode prog_3_method_11_code 179 = .ok (.iconst 1, 1) := by decide +kernel
theorem d_Su_merge_180 : decode prog_3_method_11_code 180 = .ok (.iadd, 1) := by decide +kernel
theorem d_Su_merge_181 : decode prog_3_method_11_code 181 = .ok (.iload_n 3, 1) := by decide +kernel
theorem d_Su_merge_182 : decode prog_3_method_11_code 182 = .ok (.iload_n 3, 1) := by decide +kernel
theorem d_Su_merge_183 : decode prog_3_method_11_code 183 = .ok (.invokevirtual 70, 3) := by decide +kernel
theorem d_Su_merge_186 : decode prog_3_method_11_code 186 = .ok (.istore 7, 2) := by decide +kernel
theorem d_Su_merge_188 : decode prog_3_method_11_code 188 = .ok (.iload 12, 2) := by decide +kernel
theorem d_Su_merge_190 : decode prog_3_method_11_code 190 = .ok (.ifCond .eq 41, 3) := by decide +kernel
theorem d_Su_merge_193 : decode prog_3_method_11_code 193 = .ok (.iload 5, 2) := by decide +kernel
theorem d_Su_merge_195 : decode prog_3_method_11_code 195 = .ok (.bipush 60, 2) := by decide +kernel
theorem d_Su_merge_197 : decode prog_3_method_11_code 197 = .ok (.if_icmp .ge 11, 3) := by decide +kernel
theorem d_Su_merge_200 : decode prog_3_method_11_code 200 = .ok (.iload 12, 2) := by decide +kernel
theorem d_Su_merge_202 : decode prog_3_method_11_code 202 = .ok (.invokestatic 58, 3) := by decide +kernel
theorem d_Su_merge_205 : decode prog_3_method_11_code 205 = .ok (.ifCond .eq 5, 3) := by decide +kernel
theorem d_Su_merge_208 : decode prog_3_method_11_code 208 = .ok (.iconst 0, 1) := by decide +kernel
theorem d_Su_merge_209 : decode prog_3_method_11_code 209 = .ok (.ireturn, 1) := by decide +kernel
theorem d_Su_merge_210 : decode prog_3_method_11_code 210 = .ok (.aload_n 0, 1) := by decide +kernel
theorem d_Su_merge_211 : decode prog_3_method_11_code 211 = .ok (.getfield 18, 3) := by decide +kernel
theorem d_Su_merge_214 : decode prog_3_method_11_code 214 = .ok (.iload 5, 2) := by decide +kernel
theorem d_Su_merge_216 : decode prog_3_method_11_code 216 = .ok (.iload 11, 2) := by decide +kernel
theorem d_Su_merge_218 : decode prog_3_method_11_code 218 = .ok (.iastore, 1) := by decide +kernel
theorem d_Su_merge_219 : decode prog_3_method_11_code 219 = .ok (.aload_n 0, 1) := by decide +kernel
theorem d_Su_merge_220 : decode prog_3_method_11_code 220 = .ok (.getfield 21, 3) := by decide +kernel
theorem d_Su_merge_223 : decode prog_3_method_11_code 223 = .ok (.iload 5, 2) := by decide +kernel
theorem d_Su_merge_225 : decode prog_3_method_11_code 225 = .ok (.iload 12, 2) := by decide +kernel
theorem d_Su_merge_227 : decode prog_3_method_11_code 227 = .ok (.iastore, 1) := by decide +kernel
theorem d_Su_merge_228 : decode prog_3_method_11_code 228 = .ok (.iinc 5 1, 3) := by decide +kernel
theorem d_Su_merge_231 : decode prog_3_method_11_code 231 = .ok (.iinc 8 1, 3) := by decide +kernel
theorem d_Su_merge_234 : decode prog_3_method_11_code 234 = .ok (.goto (-199), 3) := by decide +kernel
theorem d_Su_merge_237 : decode prog_3_method_11_code 237 = .ok (.aload_n 0, 1) := by decide +kernel
theorem d_Su_merge_238 : decode prog_3_method_11_code 238 = .ok (.iload 5, 2) := by decide +kernel
theorem d_Su_merge_240 : decode prog_3_method_11_code 240 = .ok (.invokevirtual 84, 3) := by decide +kernel
theorem d_Su_merge_243 : decode prog_3_method_11_code 243 = .ok (.iconst 1, 1) := by decide +kernel
theorem d_Su_merge_244 : decode prog_3_method_11_code 244 = .ok (.ireturn, 1) := by decide +kernel
theorem d_Su_climb_0 : decode prog_3_method_10_code 0 = .ok (.iconst 1, 1) := by decide +kernel
theorem d_Su_climb_1 : decode prog_3_method_10_code 1 = .ok (.iload_n 1, 1) := by decide +kernel
theorem d_Su_climb_2 : decode prog_3_method_10_code 2 = .ok (.ishl, 1) := by decide +kernel
theorem d_Su_climb_3 : decode prog_3_method_10_code 3 = .ok (.iconst 1, 1) := by decide +kernel
theorem d_Su_climb_4 : decode prog_3_method_10_code 4 = .ok (.isub, 1) := by decide +kernel
theorem d_Su_climb_5 : decode prog_3_method_10_code 5 = .ok (.istore 4, 2) := by decide +kernel
theorem d_Su_climb_7 : decode prog_3_method_10_code 7 = .ok (.sipush 255, 3) := by decide +kernel
theorem d_Su_climb_10 : decode prog_3_method_10_code 10 = .ok (.iload 4, 2) := by decide +kernel
theorem d_Su_climb_12 : decode prog_3_method_10_code 12 = .ok (.isub, 1) := by decide +kernel
theorem d_Su_climb_13 : decode prog_3_method_10_code 13 = .ok (.iconst 1, 1) := by decide +kernel
theorem d_Su_climb_14 : decode prog_3_method_10_code 14 = .ok (.iload_n 1, 1) := by decide +kernel
theorem d_Su_climb_15 : decode prog_3_method_10_code 15 = .ok (.ishl, 1) := by decide +kernel
theorem d_Su_climb_16 : decode prog_3_method_10_code 16 = .ok (.isub, 1) := by decide +kernel
theorem d_Su_climb_17 : decode prog_3_method_10_code 17 = .ok (.istore 5, 2) := by decide +kernel
theorem d_Su_climb_19 : decode prog_3_method_10_code 19 = .ok (.sipush 256, 3) := by decide +kernel
theorem d_Su_climb_22 : decode prog_3_method_10_code 22 = .ok (.iload_n 1, 1) := by decide +kernel
theorem d_Su_climb_23 : decode prog_3_method_10_code 23 = .ok (.ishl, 1) := by decide +kernel
theorem d_Su_climb_24 : decode prog_3_method_10_code 24 = .ok (.istore 6, 2) := by decide +kernel
theorem d_Su_climb_26 : decode prog_3_method_10_code 26 = .ok (.iconst 1, 1) := by decide +kernel
theorem d_Su_climb_27 : decode prog_3_method_10_code 27 = .ok (.iload_n 1, 1) := by decide +kernel
theorem d_Su_climb_28 : decode prog_3_method_10_code 28 = .ok (.ishl, 1) := by decide +kernel
theorem d_Su_climb_29 : decode prog_3_method_10_code 29 = .ok (.istore 7, 2) := by decide +kernel
theorem d_Su_climb_31 : decode prog_3_method_10_code 31 = .ok (.iload_n 2, 1) := by decide +kernel
theorem d_Su_climb_32 : decode prog_3_method_10_code 32 = .ok (.ifCond .eq 22, 3) := by decide +kernel
theorem d_Su_climb_35 : decode prog_3_method_10_code 35 = .ok (.iload_n 3, 1) := by decide +kernel
theorem d_Su_climb_36 : decode prog_3_method_10_code 36 = .ok (.ifCond .eq 18, 3) := by decide +kernel
theorem d_Su_climb_39 : decode prog_3_method_10_code 39 = .ok (.aload_n 0, 1) := by decide +kernel
theorem d_Su_climb_40 : decode prog_3_method_10_code 40 = .ok (.iload 6, 2) := by decide +kernel
theorem d_Su_climb_42 : decode prog_3_method_10_code 42 = .ok (.sipush 256, 3) := by decide +kernel
theorem d_Su_climb_45 : decode prog_3_method_10_code 45 = .ok (.iload 4, 2) := by decide +kernel
theorem d_Su_climb_47 : decode prog_3_method_10_code 47 = .ok (.imul, 1) := by decide +kernel
theorem d_Su_climb_48 : decode prog_3_method_10_code 48 = .ok (.iconst 0, 1) := by decide +kernel
theorem d_Su_climb_49 : decode prog_3_method_10_code 49 = .ok (.iconst 0, 1) := by decide +kernel
theorem d_Su_climb_50 : decode prog_3_method_10_code 50 = .ok (.invokevirtual 65, 3) := by decide +kernel
theorem d_Su_climb_53 : decode prog_3_method_10_code 53 = .ok (.ireturn, 1) := by decide +kernel
theorem d_Su_climb_54 : decode prog_3_method_10_code 54 = .ok (.iload_n 2, 1) := by decide +kernel
theorem d_Su_climb_55 : decode prog_3_method_10_code 55 = .ok (.ifCond .eq 24, 3) := by decide +kernel
theorem d_Su_climb_58 : decode prog_3_method_10_code 58 = .ok (.aload_n 0, 1) := by decide +kernel
theorem d_Su_climb_59 : decode prog_3_method_10_code 59 = .ok (.iload 6, 2) := by decide +kernel
theorem d_Su_climb_61 : decode prog_3_method_10_code 61 = .ok (.sipush 256, 3) := by decide +kernel
theorem d_Su_climb_64 : decode prog_3_method_10_code 64 = .ok (.iload 5, 2) := by decide +kernel
theorem d_Su_climb_66 : decode prog_3_method_10_code 66 = .ok (.imul, 1) := by decide +kernel
theorem d_Su_climb_67 : decode prog_3_method_10_code 67 = .ok (.sipush 255, 3) := by decide +kernel
theorem d_Su_climb_70 : decode prog_3_method_10_code 70 = .ok (.iadd, 1) := by decide +kernel
theorem d_Su_climb_71 : decode prog_3_method_10_code 71 = .ok (.iload 7, 2) := by decide +kernel
theorem d_Su_climb_73 : decode prog_3_method_10_code 73 = .ok (.iload 5, 2) := by decide +kernel
theorem d_Su_climb_75 : decode prog_3_method_10_code 75 = .ok (.invokevirtual 65, 3) := by decide +kernel
theorem d_Su_climb_78 : decode prog_3_method_10_code 78 = .ok (.ireturn, 1) := by decide +kernel
theorem d_Su_climb_79 : decode prog_3_method_10_code 79 = .ok (.iload_n 3, 1) := by decide +kernel
theorem d_Su_climb_80 : decode prog_3_method_10_code 80 = .ok (.ifCond .eq 27, 3) := by decide +kernel
theorem d_Su_climb_83 : decode prog_3_method_10_code 83 = .ok (.ldc 69, 2) := by decide +kernel
theorem d_Su_climb_85 : decode prog_3_method_10_code 85 = .ok (.iload 4, 2) := by decide +kernel
theorem d_Su_climb_87 : decode prog_3_method_10_code 87 = .ok (.iadd, 1) := by decide +kernel
theorem d_Su_climb_88 : decode prog_3_method_10_code 88 = .ok (.istore 8, 2) := by decide +kernel
theorem d_Su_climb_90 : decode prog_3_method_10_code 90 = .ok (.aload_n 0, 1) := by decide +kernel
theorem d_Su_climb_91 : decode prog_3_method_10_code 91 = .ok (.iload 7, 2) := by decide +kernel
theorem d_Su_climb_93 : decode prog_3_method_10_code 93 = .ok (.iload 8, 2) := by decide +kernel
theorem d_Su_climb_95 : decode prog_3_method_10_code 95 = .ok (.iload 6, 2) := by decide +kernel
theorem d_Su_climb_97 : decode prog_3_method_10_code 97 = .ok (.sipush 256, 3) := by decide +kernel
theorem d_Su_climb_100 : decode prog_3_method_10_code 100 = .ok (.iload 4, 2) := by decide +kernel
theorem d_Su_climb_102 : decode prog_3_method_10_code 102 = .ok (.imul, 1) := by decide +kernel
theorem d_Su_climb_103 : decode prog_3_method_10_code 103 = .ok (.invokevirtual 65, 3) := by decide +kernel
theorem d_Su_climb_106 : decode prog_3_method_10_code 106 = .ok (.ireturn, 1) := by decide +kernel
theorem d_Su_climb_107 : decode prog_3_method_10_code 107 = .ok (.aload_n 0, 1) := by decide +kernel
theorem d_Su_climb_108 : decode prog_3_method_10_code 108 = .ok (.iload 7, 2) := by decide +kernel
theorem d_Su_climb_110 : decode prog_3_method_10_code 110 = .ok (.iload 5, 2) := by decide +kernel
theorem d_Su_climb_112 : decode prog_3_method_10_code 112 = .ok (.iconst 0, 1) := by decide +kernel
theorem d_Su_climb_113 : decode prog_3_method_10_code 113 = .ok (.iconst 0, 1) := by decide +kernel
theorem d_Su_climb_114 : decode prog_3_method_10_code 114 = .ok (.invokevirtual 65, 3) := by decide +kernel
theorem d_Su_climb_117 : decode prog_3_method_10_code 117 = .ok (.ireturn, 1) := by decide +kernel
/-! FermionMaps$Sum.seek(III)I -/
def b_Su_seek_3 (F : Nat) (count : Int32) (keys : Nat → Int32) : Nat → Int32 → Int32 → Int32 → Option (Int32)
  | 0, _, _, _ => none
  | n + 1, x2, x3, x4 =>
    if count ≤ x4 then
      some (x4)
    else
      ckI x4 60 <|
      if ((keys x4.toNatClampNeg) &&& x2) = x3 then
        some (x4)
      else
        nm (x4 + 1 : Int32) fun x4_4 =>
        b_Su_seek_3 F count keys n x2 x3 x4_4
def f_Su_seek (F : Nat) (count : Int32) (keys : Nat → Int32) (p1 : Int32) (p2 : Int32) (p3 : Int32) : Option (Int32) :=
  b_Su_seek_3 F count keys F p2 p3 p1
abbrev rm_Su_seek : Room := { frames := 0, cells := 0, slots := 0, locals := 0 }
set_option maxHeartbeats 4000000 in
set_option maxRecDepth 100000 in
theorem c_Su_seek (l : Launch) (dC : Nat → ClassId) (dI : Nat → Nat → Nat) (cI cJ : ClassId) (a_p0 a_keys z_numbers z_spareKeys z_spareNumbers : Nat) (count : Int32) (keys : Nat → Int32) (p1 : Int32) (p2 : Int32) (p3 : Int32) (F : Nat) (u : Int32) (hf : f_Su_seek F count keys p1 p2 p3 = some u) : Met l y_Su_seek (Cond.code y_Su_seek prog_3_method_12_code 5 (some .int) :: T0) rm_Su_seek (va_Pc [.ref a_p0, .int p1, .int p2, .int p3] (Wr (dC, dI) [(a_p0, .inr (1, [.ref a_keys, .ref z_numbers, .ref z_spareKeys, .ref z_spareNumbers, .int count])), (a_keys, .inl (cI, 60, .inl keys))] [(cI, .int), (cJ, .long)])) (vp_Si (fun r => r = u)) 0 0 (fun _ => False) := by
  refine Met.ofW (cc := prog_3_method_12_code) (maxL := 5) (ret := (some .int)) (by decide) rfl ?_
  intro p e s m args below meth c s₁ B hml hv
  obtain ⟨rfl, hP, hK, hNW⟩ := hv
  have hx := B.exec
  have hb := B.bytes
  have hr := B.returns
  have hts := atoms_spec (ws := Cond.code y_Su_seek prog_3_method_12_code 5 (some .int) :: T0) B.pre
  have ht0 : ∀ w ∈ T0, w.before ([.ref a_p0, .int p1, .int p2, .int p3] : List Value).toArray s = true := fun w h => hts w (List.mem_cons_of_mem _ h)
  have hown : s.vm.findClass "FermionMaps$Sum" = some m.cls := findClass_of_methodNamed B.named
  have hlocks := B.notSynchronized
  have hl := lv_entry ([.ref a_p0, .int p1, .int p2, .int p3]) (n := 5) (Nat.le_of_ble_eq_true rfl)
  rw [lg_entry_eq]
  generalize (lg_sl ([.ref a_p0, .int p1, .int p2, .int p3]) ++ List.replicate (5 - (lg_sl ([.ref a_p0, .int p1, .int p2, .int p3])).length) Slot.unset).toArray = ls at hl ⊢
  have hl : lv_has ls 5 [(0, .ref a_p0), (1, .int p1), (2, .int p2), (3, .int p3)] := hl
  refine W.nameQ (fun Q hQ => ?_)
  have B_3 : ∀ (n : Nat), ∀ (x2 : Int32) (x3 : Int32) (x4 : Int32) (ls : Array Slot), b_Su_seek_3 F count keys n x2 x3 x4 = some u → lv_has ls 5 [(0, .ref a_p0), (2, .int x2), (3, .int x3), (4, .int x4)] → W p l e (headSpec (Cond.code y_Su_seek prog_3_method_12_code 5 (some .int) :: T0) rm_Su_seek).room s m ([.ref a_p0, .int p1, .int p2, .int p3] : List Value).toArray below meth c s.heap [] 0 0 Q (F0 m 3 ls []) := by
    intro n
    induction n with
    | zero =>
      intro x2 x3 x4 ls hf hl
      exact no_fuel hf
    | succ n ih =>
      intro x2 x3 x4 ls hf hl
      rw [b_Su_seek_3] at hf
      refine lv_iload hx hb d_Su_seek_3 (lv_at hl 3 rfl) ?_
      refine lv_aload_n hx hb d_Su_seek_5 rfl (lv_at hl 0 rfl) ?_
      refine va_get (D := (dC, dI)) (ci := 1) (v := .int count) (C := "FermionMaps$Sum") (T := F_Su) (N := 5) hx hb ht0 i_Su hown hK hP 0 rfl rfl 4 (by decide) (ht0 _ m_32) (fun _ h9 => h9) rfl d_Su_seek_6 ?_
      refine lv_icmp_ge (tgt := 31) hx hb d_Su_seek_9 (by decide) (fun c_1 => ?_) (fun c_1 => ?_)
      · replace hf := if_t c_1 hf
        refine lv_iload hx hb d_Su_seek_31 (lv_at hl 3 rfl) ?_
        have hu := Option.some.inj hf
        subst hu
        exact rt_i hQ rfl hx hb hr hlocks d_Su_seek_33
      · replace hf := if_f c_1 hf
        refine lv_aload_n hx hb d_Su_seek_12 rfl (lv_at hl 0 rfl) ?_
        refine va_get (D := (dC, dI)) (ci := 1) (v := .ref a_keys) (C := "FermionMaps$Sum") (T := F_Su) (N := 5) hx hb ht0 i_Su hown hK hP 0 rfl rfl 0 (by decide) (ht0 _ m_26) (fun _ h9 => h9) rfl d_Su_seek_13 ?_
        refine lv_iload hx hb d_Su_seek_16 (lv_at hl 3 rfl) ?_
        obtain ⟨hi_2, hf⟩ := ckI_ok hf
        refine va_iald hx hb hK hP 1 0 rfl rfl hi_2 d_Su_seek_18 ?_
        refine lv_iload_n hx hb d_Su_seek_19 rfl (lv_at hl 1 rfl) ?_
        refine lv_iand hx hb d_Su_seek_20 ?_
        refine lv_iload_n hx hb d_Su_seek_21 rfl (lv_at hl 2 rfl) ?_
        refine lv_icmp_eq (tgt := 31) hx hb d_Su_seek_22 (by decide) (fun c_3 => ?_) (fun c_3 => ?_)
        · replace hf := if_t c_3 hf
          refine lv_iload hx hb d_Su_seek_31 (lv_at hl 3 rfl) ?_
          have hu := Option.some.inj hf
          subst hu
          exact rt_i hQ rfl hx hb hr hlocks d_Su_seek_33
        · replace hf := if_f c_3 hf
          obtain ⟨x4_4, e_x4_4⟩ : ∃ y : Int32, y = x4 + 1 := ⟨_, rfl⟩
          replace hf := nm_eq e_x4_4 hf
          refine lv_iinc (v := x4_4) (lv' := [(4, .int x4_4), (0, .ref a_p0), (2, .int x2), (3, .int x3)]) hx hb d_Su_seek_25 hl (k := 3) rfl (by rw [e_x4_4]; rfl) (by decide) rfl (fun ls hl => ?_)
          refine lv_goto (tgt := 3) hx hb d_Su_seek_28 (by decide) ?_
          exact ih x2 x3 x4_4 ls hf (lv_sub hl [1, 2, 3, 0] rfl)
  rw [f_Su_seek] at hf
  refine lv_iload_n hx hb d_Su_seek_0 rfl (lv_at hl 1 rfl) ?_
  refine lv_istore (lv' := [(4, .int p1), (0, .ref a_p0), (1, .int p1), (2, .int p2), (3, .int p3)]) hx hb d_Su_seek_1 hl (by decide) rfl (fun ls hl => ?_)
  exact B_3 F p2 p3 p1 ls hf (lv_sub hl [1, 3, 4, 0] rfl)

/-! FermionMaps$Sum.useSpare(I)V -/
def f_Su_useSpare (F : Nat) (count : Int32) (keys : Nat → Int32) (numbers : Nat → Int32) (spareKeys : Nat → Int32) (spareNumbers : Nat → Int32) (p1 : Int32) : Option (Int32 × (Nat → Int32) × (Nat → Int32) × (Nat → Int32) × (Nat → Int32)) :=
  some (p1, spareKeys, spareNumbers, keys, numbers)
abbrev rm_Su_useSpare : Room := { frames := 0, cells := 0, slots := 0, locals := 0 }
set_option maxHeartbeats 4000000 in
set_option maxRecDepth 100000 in
theorem c_Su_useSpare (l : Launch) (dC : Nat → ClassId) (dI : Nat → Nat → Nat) (cI cJ : ClassId) (a_p0 a_keys a_numbers a_spareKeys a_spareNumbers : Nat) (sz : Nat) (count : Int32) (keys : Nat → Int32) (numbers : Nat → Int32) (spareKeys : Nat → Int32) (spareNumbers : Nat → Int32) (p1 : Int32) (F : Nat) (u : Int32 × (Nat → Int32) × (Nat → Int32) × (Nat → Int32) × (Nat → Int32)) (hf : f_Su_useSpare F count keys numbers spareKeys spareNumbers p1 = some u) : Met l y_Su_useSpare (Cond.code y_Su_useSpare prog_3_method_14_code 4 none :: T0) rm_Su_useSpare (va_Pc [.ref a_p0, .int p1] (Ww (dC, dI) [(a_p0, .inr (1, [.ref a_keys, .ref a_numbers, .ref a_spareKeys, .ref a_spareNumbers, .int count])), (a_keys, .inl (cI, 60, .inl keys)), (a_numbers, .inl (cI, 60, .inl numbers)), (a_spareKeys, .inl (cI, 60, .inl spareKeys)), (a_spareNumbers, .inl (cI, 60, .inl spareNumbers))] [(cI, .int), (cJ, .long)] sz)) (va_Qv (fun _ : Unit => True) (Bw (dC, dI) [(cI, .int), (cJ, .long)] (va_A [(a_p0, .inr (1, [.ref a_keys, .ref a_numbers, .ref a_spareKeys, .ref a_spareNumbers, .int count])), (a_keys, .inl (cI, 60, .inl keys)), (a_numbers, .inl (cI, 60, .inl numbers)), (a_spareKeys, .inl (cI, 60, .inl spareKeys)), (a_spareNumbers, .inl (cI, 60, .inl spareNumbers))] sz) (fun w1 => ∃ q_keys q_numbers q_spareKeys q_spareNumbers : Nat, w1 = [(a_p0, .inr (1, [.ref q_keys, .ref q_numbers, .ref q_spareKeys, .ref q_spareNumbers, .int u.1])), (q_keys, .inl (cI, 60, .inl u.2.1)), (q_numbers, .inl (cI, 60, .inl u.2.2.1)), (q_spareKeys, .inl (cI, 60, .inl u.2.2.2.1)), (q_spareNumbers, .inl (cI, 60, .inl u.2.2.2.2))])) (va_A [(a_p0, .inr (1, [.ref a_keys, .ref a_numbers, .ref a_spareKeys, .ref a_spareNumbers, .int count])), (a_keys, .inl (cI, 60, .inl keys)), (a_numbers, .inl (cI, 60, .inl numbers)), (a_spareKeys, .inl (cI, 60, .inl spareKeys)), (a_spareNumbers, .inl (cI, 60, .inl spareNumbers))] sz)) 0 0 (va_A [(a_p0, .inr (1, [.ref a_keys, .ref a_numbers, .ref a_spareKeys, .ref a_spareNumbers, .int count])), (a_keys, .inl (cI, 60, .inl keys)), (a_numbers, .inl (cI, 60, .inl numbers)), (a_spareKeys, .inl (cI, 60, .inl spareKeys)), (a_spareNumbers, .inl (cI, 60, .inl spareNumbers))] sz) := by
  refine Met.ofW (cc := prog_3_method_14_code) (maxL := 4) (ret := none) (by decide) rfl ?_
  intro p e s m args below meth c s₁ B hml hv
  obtain ⟨rfl, hsz, hP, hK, hD0, hNW⟩ := hv
  have hx := B.exec
  have hb := B.bytes
  have hr := B.returns
  have hts := atoms_spec (ws := Cond.code y_Su_useSpare prog_3_method_14_code 4 none :: T0) B.pre
  have ht0 : ∀ w ∈ T0, w.before ([.ref a_p0, .int p1] : List Value).toArray s = true := fun w h => hts w (List.mem_cons_of_mem _ h)
  have hown : s.vm.findClass "FermionMaps$Sum" = some m.cls := findClass_of_methodNamed B.named
  have hlocks := B.notSynchronized
  subst hsz
  have hD := hD0.self (sz := s.heap.size)
  generalize hAe : va_A [(a_p0, .inr (1, [.ref a_keys, .ref a_numbers, .ref a_spareKeys, .ref a_spareNumbers, .int count])), (a_keys, .inl (cI, 60, .inl keys)), (a_numbers, .inl (cI, 60, .inl numbers)), (a_spareKeys, .inl (cI, 60, .inl spareKeys)), (a_spareNumbers, .inl (cI, 60, .inl spareNumbers))] s.heap.size = A at hD ⊢
  have hA : ∀ q : Nat, s.heap.size ≤ q → A q := fun q h => by rw [← hAe]; exact Or.inr h
  have hS : va_S A s.heap s.heap [] := va_S.rf
  have hl := lv_entry ([.ref a_p0, .int p1]) (n := 4) (Nat.le_of_ble_eq_true rfl)
  rw [lg_entry_eq]
  generalize (lg_sl ([.ref a_p0, .int p1]) ++ List.replicate (4 - (lg_sl ([.ref a_p0, .int p1])).length) Slot.unset).toArray = ls at hl ⊢
  have hl : lv_has ls 4 [(0, .ref a_p0), (1, .int p1)] := hl
  refine W.nameQ (fun Q hQ => ?_)
  rw [f_Su_useSpare] at hf
  refine lv_aload_n hx hb d_Su_useSpare_0 rfl (lv_at hl 0 rfl) ?_
  refine va_get (D := (dC, dI)) (ci := 1) (v := .ref a_keys) (C := "FermionMaps$Sum") (T := F_Su) (N := 5) hx hb ht0 i_Su hown hK hP 0 rfl rfl 0 (by decide) (ht0 _ m_26) (fun _ h9 => h9) rfl d_Su_useSpare_1 ?_
  refine lv_astore_n (lv' := [(2, .ref a_keys), (0, .ref a_p0), (1, .int p1)]) hx hb d_Su_useSpare_4 rfl hl (by decide) rfl (fun ls hl => ?_)
  refine lv_aload_n hx hb d_Su_useSpare_5 rfl (lv_at hl 1 rfl) ?_
  refine va_get (D := (dC, dI)) (ci := 1) (v := .ref a_numbers) (C := "FermionMaps$Sum") (T := F_Su) (N := 5) hx hb ht0 i_Su hown hK hP 0 rfl rfl 1 (by decide) (ht0 _ m_27) (fun _ h9 => h9) rfl d_Su_useSpare_6 ?_
  refine lv_astore_n (lv' := [(3, .ref a_numbers), (2, .ref a_keys), (0, .ref a_p0), (1, .int p1)]) hx hb d_Su_useSpare_9 rfl hl (by decide) rfl (fun ls hl => ?_)
  refine lv_aload_n hx hb d_Su_useSpare_10 rfl (lv_at hl 2 rfl) ?_
  refine lv_aload_n hx hb d_Su_useSpare_11 rfl (lv_at hl 2 rfl) ?_
  refine va_get (D := (dC, dI)) (ci := 1) (v := .ref a_spareKeys) (C := "FermionMaps$Sum") (T := F_Su) (N := 5) hx hb ht0 i_Su hown hK hP 0 rfl rfl 2 (by decide) (ht0 _ m_30) (fun _ h9 => h9) rfl d_Su_useSpare_12 ?_
  refine va_put (D := (dC, dI)) (ci := 1) (v := .ref a_spareKeys) (ty := .array .int) (C := "FermionMaps$Sum") (T := F_Su) (N := 5) hx hb ht0 i_Su t_Su t_Su_ok n_Su hown hK hP hD hS 0 rfl rfl 0 (by decide) (ht0 _ m_26) (fun _ h9 => h9) rfl (by decide +kernel) rfl rfl (Nat.le_of_ble_eq_true rfl) d_Su_useSpare_15 (fun H locs hP hD hS => ?_)
  have hP : va_P (dC, dI) cls [(a_p0, .inr (1, [.ref a_spareKeys, .ref a_numbers, .ref a_spareKeys, .ref a_spareNumbers, .int count])), (a_keys, .inl (cI, 60, .inl keys)), (a_numbers, .inl (cI, 60, .inl numbers)), (a_spareKeys, .inl (cI, 60, .inl spareKeys)), (a_spareNumbers, .inl (cI, 60, .inl spareNumbers))] H := hP
  have hD : va_D A [(a_p0, .inr (1, [.ref a_spareKeys, .ref a_numbers, .ref a_spareKeys, .ref a_spareNumbers, .int count])), (a_keys, .inl (cI, 60, .inl keys)), (a_numbers, .inl (cI, 60, .inl numbers)), (a_spareKeys, .inl (cI, 60, .inl spareKeys)), (a_spareNumbers, .inl (cI, 60, .inl spareNumbers))] := hD
  refine lv_aload_n hx hb d_Su_useSpare_18 rfl (lv_at hl 2 rfl) ?_
  refine lv_aload_n hx hb d_Su_useSpare_19 rfl (lv_at hl 2 rfl) ?_
  refine va_get (D := (dC, dI)) (ci := 1) (v := .ref a_spareNumbers) (C := "FermionMaps$Sum") (T := F_Su) (N := 5) hx hb ht0 i_Su hown hK hP 0 rfl rfl 3 (by decide) (ht0 _ m_31) (fun _ h9 => h9) rfl d_Su_useSpare_20 ?_
  refine va_put (D := (dC, dI)) (ci := 1) (v := .ref a_spareNumbers) (ty := .array .int) (C := "FermionMaps$Sum") (T := F_Su) (N := 5) hx hb ht0 i_Su t_Su t_Su_ok n_Su hown hK hP hD hS 0 rfl rfl 1 (by decide) (ht0 _ m_27) (fun _ h9 => h9) rfl (by decide +kernel) rfl rfl (Nat.le_of_ble_eq_true rfl) d_Su_useSpare_23 (fun H locs hP hD hS => ?_)
  have hP : va_P (dC, dI) cls [(a_p0, .inr (1, [.ref a_spareKeys, .ref a_spareNumbers, .ref a_spareKeys, .ref a_spareNumbers, .int count])), (a_keys, .inl (cI, 60, .inl keys)), (a_numbers, .inl (cI, 60, .inl numbers)), (a_spareKeys, .inl (cI, 60, .inl spareKeys)), (a_spareNumbers, .inl (cI, 60, .inl spareNumbers))] H := hP
  have hD : va_D A [(a_p0, .inr (1, [.ref a_spareKeys, .ref a_spareNumbers, .ref a_spareKeys, .ref a_spareNumbers, .int count])), (a_keys, .inl (cI, 60, .inl keys)), (a_numbers, .inl (cI, 60, .inl numbers)), (a_spareKeys, .inl (cI, 60, .inl spareKeys)), (a_spareNumbers, .inl (cI, 60, .inl spareNumbers))] := hD
  refine lv_aload_n hx hb d_Su_useSpare_26 rfl (lv_at hl 2 rfl) ?_
  refine lv_aload_n hx hb d_Su_useSpare_27 rfl (lv_at hl 1 rfl) ?_
  refine va_put (D := (dC, dI)) (ci := 1) (v := .ref a_keys) (ty := .array .int) (C := "FermionMaps$Sum") (T := F_Su) (N := 5) hx hb ht0 i_Su t_Su t_Su_ok n_Su hown hK hP hD hS 0 rfl rfl 2 (by decide) (ht0 _ m_30) (fun _ h9 => h9) rfl (by decide +kernel) rfl rfl (Nat.le_of_ble_eq_true rfl) d_Su_useSpare_28 (fun H locs hP hD hS => ?_)
  have hP : va_P (dC, dI) cls [(a_p0, .inr (1, [.ref a_spareKeys, .ref a_spareNumbers, .ref a_keys, .ref a_spareNumbers, .int count])), (a_keys, .inl (cI, 60, .inl keys)), (a_numbers, .inl (cI, 60, .inl numbers)), (a_spareKeys, .inl (cI, 60, .inl spareKeys)), (a_spareNumbers, .inl (cI, 60, .inl spareNumbers))] H := hP
  have hD : va_D A [(a_p0, .inr (1, [.ref a_spareKeys, .ref a_spareNumbers, .ref a_keys, .ref a_spareNumbers, .int count])), (a_keys, .inl (cI, 60, .inl keys)), (a_numbers, .inl (cI, 60, .inl numbers)), (a_spareKeys, .inl (cI, 60, .inl spareKeys)), (a_spareNumbers, .inl (cI, 60, .inl spareNumbers))] := hD
  refine lv_aload_n hx hb d_Su_useSpare_31 rfl (lv_at hl 2 rfl) ?_
  refine lv_aload_n hx hb d_Su_useSpare_32 rfl (lv_at hl 0 rfl) ?_
  refine va_put (D := (dC, dI)) (ci := 1) (v := .ref a_numbers) (ty := .array .int) (C := "FermionMaps$Sum") (T := F_Su) (N := 5) hx hb ht0 i_Su t_Su t_Su_ok n_Su hown hK hP hD hS 0 rfl rfl 3 (by decide) (ht0 _ m_31) (fun _ h9 => h9) rfl (by decide +kernel) rfl rfl (Nat.le_of_ble_eq_true rfl) d_Su_useSpare_33 (fun H locs hP hD hS => ?_)
  have hP : va_P (dC, dI) cls [(a_p0, .inr (1, [.ref a_spareKeys, .ref a_spareNumbers, .ref a_keys, .ref a_numbers, .int count])), (a_keys, .inl (cI, 60, .inl keys)), (a_numbers, .inl (cI, 60, .inl numbers)), (a_spareKeys, .inl (cI, 60, .inl spareKeys)), (a_spareNumbers, .inl (cI, 60, .inl spareNumbers))] H := hP
  have hD : va_D A [(a_p0, .inr (1, [.ref a_spareKeys, .ref a_spareNumbers, .ref a_keys, .ref a_numbers, .int count])), (a_keys, .inl (cI, 60, .inl keys)), (a_numbers, .inl (cI, 60, .inl numbers)), (a_spareKeys, .inl (cI, 60, .inl spareKeys)), (a_spareNumbers, .inl (cI, 60, .inl spareNumbers))] := hD
  refine lv_aload_n hx hb d_Su_useSpare_36 rfl (lv_at hl 2 rfl) ?_
  refine lv_iload_n hx hb d_Su_useSpare_37 rfl (lv_at hl 3 rfl) ?_
  refine va_put (D := (dC, dI)) (ci := 1) (v := .int p1) (ty := .int) (C := "FermionMaps$Sum") (T := F_Su) (N := 5) hx hb ht0 i_Su t_Su t_Su_ok n_Su hown hK hP hD hS 0 rfl rfl 4 (by decide) (ht0 _ m_32) (fun _ h9 => h9) rfl (by decide +kernel) rfl rfl (Nat.le_of_ble_eq_true rfl) d_Su_useSpare_38 (fun H locs hP hD hS => ?_)
  have hP : va_P (dC, dI) cls [(a_p0, .inr (1, [.ref a_spareKeys, .ref a_spareNumbers, .ref a_keys, .ref a_numbers, .int p1])), (a_keys, .inl (cI, 60, .inl keys)), (a_numbers, .inl (cI, 60, .inl numbers)), (a_spareKeys, .inl (cI, 60, .inl spareKeys)), (a_spareNumbers, .inl (cI, 60, .inl spareNumbers))] H := hP
  have hD : va_D A [(a_p0, .inr (1, [.ref a_spareKeys, .ref a_spareNumbers, .ref a_keys, .ref a_numbers, .int p1])), (a_keys, .inl (cI, 60, .inl keys)), (a_numbers, .inl (cI, 60, .inl numbers)), (a_spareKeys, .inl (cI, 60, .inl spareKeys)), (a_spareNumbers, .inl (cI, 60, .inl spareNumbers))] := hD
  have hu := Option.some.inj hf
  subst hu
  have hP : va_P (dC, dI) cls [(a_p0, .inr (1, [.ref a_spareKeys, .ref a_spareNumbers, .ref a_keys, .ref a_numbers, .int p1])), (a_spareKeys, .inl (cI, 60, .inl spareKeys)), (a_spareNumbers, .inl (cI, 60, .inl spareNumbers)), (a_keys, .inl (cI, 60, .inl keys)), (a_numbers, .inl (cI, 60, .inl numbers))] H := hP.sub [0, 3, 4, 1, 2] rfl
  have hD : va_D A [(a_p0, .inr (1, [.ref a_spareKeys, .ref a_spareNumbers, .ref a_keys, .ref a_numbers, .int p1])), (a_spareKeys, .inl (cI, 60, .inl spareKeys)), (a_spareNumbers, .inl (cI, 60, .inl spareNumbers)), (a_keys, .inl (cI, 60, .inl keys)), (a_numbers, .inl (cI, 60, .inl numbers))] := hD.sub [0, 3, 4, 1, 2] (by decide) rfl
  exact rw_v hQ ⟨a_spareKeys, a_spareNumbers, a_keys, a_numbers, rfl⟩ hP hD hK hS hx hb hr hlocks d_Su_useSpare_41

/-! FermionMaps$Sum.signed(II)I -/
def f_Su_signed (F : Nat) (keys : Nat → Int32) (numbers : Nat → Int32) (p1 : Int32) (p2 : Int32) : Option (Int32) :=
  ckI p1 60 <|
  (f_FM_isOdd F ((keys p1.toNatClampNeg) &&& p2)).bind fun u_2 =>
  if u_2 = 0 then
    ckI p1 60 <|
    some ((numbers p1.toNatClampNeg))
  else
    ckI p1 60 <|
    some ((-(numbers p1.toNatClampNeg)))
abbrev rm_Su_signed : Room := { frames := 2, cells := 0, slots := 0, locals := 40 }
set_option maxHeartbeats 4000000 in
set_option maxRecDepth 100000 in
theorem c_Su_signed (l : Launch) (dC : Nat → ClassId) (dI : Nat → Nat → Nat) (cI cJ : ClassId) (a_p0 a_keys a_numbers z_spareKeys z_spareNumbers : Nat) (count : Int32) (keys : Nat → Int32) (numbers : Nat → Int32) (p1 : Int32) (p2 : Int32) (F : Nat) (u : Int32) (hf : f_Su_signed F keys numbers p1 p2 = some u) : Met l y_Su_signed (Cond.code y_Su_signed prog_3_method_13_code 3 (some .int) :: T0) rm_Su_signed (va_Pc [.ref a_p0, .int p1, .int p2] (Wr (dC, dI) [(a_p0, .inr (1, [.ref a_keys, .ref a_numbers, .ref z_spareKeys, .ref z_spareNumbers, .int count])), (a_keys, .inl (cI, 60, .inl keys)), (a_numbers, .inl (cI, 60, .inl numbers))] [(cI, .int), (cJ, .long)])) (vp_Si (fun r => r = u)) 0 0 (fun _ => False) := by
  refine Met.ofW (cc := prog_3_method_13_code) (maxL := 3) (ret := (some .int)) (by decide) rfl ?_
  intro p e s m args below meth c s₁ B hml hv
  obtain ⟨rfl, hP, hK, hNW⟩ := hv
  have hx := B.exec
  have hb := B.bytes
  have hr := B.returns
  have hts := atoms_spec (ws := Cond.code y_Su_signed prog_3_method_13_code 3 (some .int) :: T0) B.pre
  have ht0 : ∀ w ∈ T0, w.before ([.ref a_p0, .int p1, .int p2] : List Value).toArray s = true := fun w h => hts w (List.mem_cons_of_mem _ h)
  have hown : s.vm.findClass "FermionMaps$Sum" = some m.cls := findClass_of_methodNamed B.named
  have hlocks := B.notSynchronized
  have hl := lv_entry ([.ref a_p0, .int p1, .int p2]) (n := 3) (Nat.le_of_ble_eq_true rfl)
  rw [lg_entry_eq]
  generalize (lg_sl ([.ref a_p0, .int p1, .int p2]) ++ List.replicate (3 - (lg_sl ([.ref a_p0, .int p1, .int p2])).length) Slot.unset).toArray = ls at hl ⊢
  have hl : lv_has ls 3 [(0, .ref a_p0), (1, .int p1), (2, .int p2)] := hl
  refine W.nameQ (fun Q hQ => ?_)
  rw [f_Su_signed] at hf
  refine lv_aload_n hx hb d_Su_signed_0 rfl (lv_at hl 0 rfl) ?_
  refine va_get (D := (dC, dI)) (ci := 1) (v := .ref a_keys) (C := "FermionMaps$Sum") (T := F_Su) (N := 5) hx hb ht0 i_Su hown hK hP 0 rfl rfl 0 (by decide) (ht0 _ m_26) (fun _ h9 => h9) rfl d_Su_signed_1 ?_
  refine lv_iload_n hx hb d_Su_signed_4 rfl (lv_at hl 1 rfl) ?_
  obtain ⟨hi_1, hf⟩ := ckI_ok hf
  refine va_iald hx hb hK hP 1 0 rfl rfl hi_1 d_Su_signed_5 ?_
  refine lv_iload_n hx hb d_Su_signed_6 rfl (lv_at hl 2 rfl) ?_
  refine lv_iand hx hb d_Su_signed_7 ?_
  obtain ⟨u_2, h_u_2, hf⟩ := bd hf
  refine rd_i (rdSN_run (As := [.int ((keys p1.toNatClampNeg) &&& p2)]) (rest := []) ⟨hx, hb, hml, hown, ht0⟩ (c_FM_isOdd l dC dI cI cJ ((keys p1.toNatClampNeg) &&& p2) F u_2 h_u_2) ⟨va_cnB (host := "FermionMaps") 1 ht0 (gC m_201) rfl rfl rfl (nw_Su_43 hNW) (ht0 _ m_1) (by decide +kernel) ⟨Nat.le_of_ble_eq_true rfl, Nat.le_of_ble_eq_true rfl⟩, ht0 _ m_200, trivial⟩ hK hNW hP [] rfl  rfl hl.1 rfl (Nat.le_of_ble_eq_true rfl) d_Su_signed_8 ⟨Nat.zero_le _, Nat.zero_le _⟩) ?_
  refine lv_if_eq (tgt := 24) hx hb d_Su_signed_11 (by decide) (fun c_3 => ?_) (fun c_3 => ?_)
  · replace hf := if_t c_3 hf
    refine lv_aload_n hx hb d_Su_signed_24 rfl (lv_at hl 0 rfl) ?_
    refine va_get (D := (dC, dI)) (ci := 1) (v := .ref a_numbers) (C := "FermionMaps$Sum") (T := F_Su) (N := 5) hx hb ht0 i_Su hown hK hP 0 rfl rfl 1 (by decide) (ht0 _ m_27) (fun _ h9 => h9) rfl d_Su_signed_25 ?_
    refine lv_iload_n hx hb d_Su_signed_28 rfl (lv_at hl 1 rfl) ?_
    obtain ⟨hi_4, hf⟩ := ckI_ok hf
    refine va_iald hx hb hK hP 2 0 rfl rfl hi_4 d_Su_signed_29 ?_
    have hu := Option.some.inj hf
    subst hu
    exact rt_i hQ rfl hx hb hr hlocks d_Su_signed_30
  · replace hf := if_f c_3 hf
    refine lv_aload_n hx hb d_Su_signed_14 rfl (lv_at hl 0 rfl) ?_
    refine va_get (D := (dC, dI)) (ci := 1) (v := .ref a_numbers) (C := "FermionMaps$Sum") (T := F_Su) (N := 5) hx hb ht0 i_Su hown hK hP 0 rfl rfl 1 (by decide) (ht0 _ m_27) (fun _ h9 => h9) rfl d_Su_signed_15 ?_
    refine lv_iload_n hx hb d_Su_signed_18 rfl (lv_at hl 1 rfl) ?_
    obtain ⟨hi_5, hf⟩ := ckI_ok hf
    refine va_iald hx hb hK hP 2 0 rfl rfl hi_5 d_Su_signed_19 ?_
    refine lv_ineg hx hb d_Su_signed_20 ?_
    refine lv_goto (tgt := 30) hx hb d_Su_signed_21 (by decide) ?_
    have hu := Option.some.inj hf
    subst hu
    exact rt_i hQ rfl hx hb hr hlocks d_Su_signed_30

/-! FermionMaps$Sum.merge(IIII)Z -/
def b_Su_merge_237 (F : Nat) (x5 : Int32) (count : Int32) (keys : Nat → Int32) (numbers : Nat → Int32) (spareKeys : Nat → Int32) (spareNumbers : Nat → Int32) : Option (Int32 × Int32 × (Nat → Int32) × (Nat → Int32) × (Nat → Int32) × (Nat → Int32)) :=
  (f_Su_useSpare F count keys numbers spareKeys spareNumbers x5).bind fun u_5 =>
  some (1, u_5.1, u_5.2.1, u_5.2.2.1, u_5.2.2.2.1, u_5.2.2.2.2)
def b_Su_merge_231 (F : Nat) (k_35 : Int32 → Int32 → Int32 → Int32 → Int32 → Int32 → Int32 → Int32 → Int32 → (Nat → Int32) → (Nat → Int32) → (Nat → Int32) → (Nat → Int32) → Option (Int32 × Int32 × (Nat → Int32) × (Nat → Int32) × (Nat → Int32) × (Nat → Int32))) (x1 : Int32) (x2 : Int32) (x3 : Int32) (x4 : Int32) (x5 : Int32) (x6 : Int32) (x7 : Int32) (x8 : Int32) (count : Int32) (keys : Nat → Int32) (numbers : Nat → Int32) (spareKeys : Nat → Int32) (spareNumbers : Nat → Int32) : Option (Int32 × Int32 × (Nat → Int32) × (Nat → Int32) × (Nat → Int32) × (Nat → Int32)) :=
  nm (x8 + 1 : Int32) fun x8_17 =>
  k_35 x1 x2 x3 x4 x5 x6 x7 x8_17 count keys numbers spareKeys spareNumbers
def b_Su_merge_188 (F : Nat) (k_35 : Int32 → Int32 → Int32 → Int32 → Int32 → Int32 → Int32 → Int32 → Int32 → (Nat → Int32) → (Nat → Int32) → (Nat → Int32) → (Nat → Int32) → Option (Int32 × Int32 × (Nat → Int32) × (Nat → Int32) × (Nat → Int32) × (Nat → Int32))) (x1 : Int32) (x2 : Int32) (x3 : Int32) (x4 : Int32) (x5 : Int32) (x6 : Int32) (x7 : Int32) (x8 : Int32) (x11 : Int32) (x12 : Int32) (count : Int32) (keys : Nat → Int32) (numbers : Nat → Int32) (spareKeys : Nat → Int32) (spareNumbers : Nat → Int32) : Option (Int32 × Int32 × (Nat → Int32) × (Nat → Int32) × (Nat → Int32) × (Nat → Int32)) :=
  if x12 = 0 then
    b_Su_merge_231 F k_35 x1 x2 x3 x4 x5 x6 x7 x8 count keys numbers spareKeys spareNumbers
  else
    if 60 ≤ x5 then
      some (0, count, keys, numbers, spareKeys, spareNumbers)
    else
      (f_FM_isBeyond F x12).bind fun u_19 =>
      if u_19 = 0 then
        ckI x5 60 <|
        ckI x5 60 <|
        nm (x5 + 1 : Int32) fun x5_23 =>
        b_Su_merge_231 F k_35 x1 x2 x3 x4 x5_23 x6 x7 x8 count keys numbers (upd spareKeys x5.toNatClampNeg x11) (upd spareNumbers x5.toNatClampNeg x12)
      else
        some (0, count, keys, numbers, spareKeys, spareNumbers)
def b_Su_merge_156 (F : Nat) (k_35 : Int32 → Int32 → Int32 → Int32 → Int32 → Int32 → Int32 → Int32 → Int32 → (Nat → Int32) → (Nat → Int32) → (Nat → Int32) → (Nat → Int32) → Option (Int32 × Int32 × (Nat → Int32) × (Nat → Int32) × (Nat → Int32) × (Nat → Int32))) (x1 : Int32) (x2 : Int32) (x3 : Int32) (x4 : Int32) (x5 : Int32) (x6 : Int32) (x7 : Int32) (x8 : Int32) (x10 : Int32) (x11 : Int32) (x12 : Int32) (count : Int32) (keys : Nat → Int32) (numbers : Nat → Int32) (spareKeys : Nat → Int32) (spareNumbers : Nat → Int32) : Option (Int32 × Int32 × (Nat → Int32) × (Nat → Int32) × (Nat → Int32) × (Nat → Int32)) :=
  if x10 = x11 then
    (f_Su_signed F keys numbers x7 x4).bind fun u_24 =>
    nm ((x12 + u_24) : Int32) fun x12_25 =>
    (f_Su_seek F count keys (x7 + 1) x3 x3).bind fun u_26 =>
    b_Su_merge_188 F k_35 x1 x2 x3 x4 x5 x6 u_26 x8 x11 x12_25 count keys numbers spareKeys spareNumbers
  else
    b_Su_merge_188 F k_35 x1 x2 x3 x4 x5 x6 x7 x8 x11 x12 count keys numbers spareKeys spareNumbers
def b_Su_merge_111 (F : Nat) (k_35 : Int32 → Int32 → Int32 → Int32 → Int32 → Int32 → Int32 → Int32 → Int32 → (Nat → Int32) → (Nat → Int32) → (Nat → Int32) → (Nat → Int32) → Option (Int32 × Int32 × (Nat → Int32) × (Nat → Int32) × (Nat → Int32) × (Nat → Int32))) (x1 : Int32) (x2 : Int32) (x3 : Int32) (x4 : Int32) (x5 : Int32) (x6 : Int32) (x7 : Int32) (x8 : Int32) (x9 : Int32) (s0 : Int32) (count : Int32) (keys : Nat → Int32) (numbers : Nat → Int32) (spareKeys : Nat → Int32) (spareNumbers : Nat → Int32) : Option (Int32 × Int32 × (Nat → Int32) × (Nat → Int32) × (Nat → Int32) × (Nat → Int32)) :=
  nm ((if s0 < x9 then s0 else x9) : Int32) fun t_13 =>
  if x9 = t_13 then
    (f_Su_signed F keys numbers x6 x2).bind fun u_27 =>
    nm ((0 + u_27) : Int32) fun x12_28 =>
    (f_Su_seek F count keys (x6 + 1) x1 0).bind fun u_29 =>
    b_Su_merge_156 F k_35 x1 x2 x3 x4 x5 u_29 x7 x8 s0 t_13 x12_28 count keys numbers spareKeys spareNumbers
  else
    b_Su_merge_156 F k_35 x1 x2 x3 x4 x5 x6 x7 x8 s0 t_13 0 count keys numbers spareKeys spareNumbers
def b_Su_merge_86 (F : Nat) (k_35 : Int32 → Int32 → Int32 → Int32 → Int32 → Int32 → Int32 → Int32 → Int32 → (Nat → Int32) → (Nat → Int32) → (Nat → Int32) → (Nat → Int32) → Option (Int32 × Int32 × (Nat → Int32) × (Nat → Int32) × (Nat → Int32) × (Nat → Int32))) (x1 : Int32) (x2 : Int32) (x3 : Int32) (x4 : Int32) (x5 : Int32) (x6 : Int32) (x7 : Int32) (x8 : Int32) (s0 : Int32) (count : Int32) (keys : Nat → Int32) (numbers : Nat → Int32) (spareKeys : Nat → Int32) (spareNumbers : Nat → Int32) : Option (Int32 × Int32 × (Nat → Int32) × (Nat → Int32) × (Nat → Int32) × (Nat → Int32)) :=
  if count ≤ x7 then
    b_Su_merge_111 F k_35 x1 x2 x3 x4 x5 x6 x7 x8 s0 65536 count keys numbers spareKeys spareNumbers
  else
    ckI x7 60 <|
    b_Su_merge_111 F k_35 x1 x2 x3 x4 x5 x6 x7 x8 s0 ((keys x7.toNatClampNeg) - x3) count keys numbers spareKeys spareNumbers
def b_Su_merge_63 (F : Nat) (k_35 : Int32 → Int32 → Int32 → Int32 → Int32 → Int32 → Int32 → Int32 → Int32 → (Nat → Int32) → (Nat → Int32) → (Nat → Int32) → (Nat → Int32) → Option (Int32 × Int32 × (Nat → Int32) × (Nat → Int32) × (Nat → Int32) × (Nat → Int32))) (x1 : Int32) (x2 : Int32) (x3 : Int32) (x4 : Int32) (x5 : Int32) (x6 : Int32) (x7 : Int32) (x8 : Int32) (count : Int32) (keys : Nat → Int32) (numbers : Nat → Int32) (spareKeys : Nat → Int32) (spareNumbers : Nat → Int32) : Option (Int32 × Int32 × (Nat → Int32) × (Nat → Int32) × (Nat → Int32) × (Nat → Int32)) :=
  if count ≤ x6 then
    b_Su_merge_86 F k_35 x1 x2 x3 x4 x5 x6 x7 x8 65536 count keys numbers spareKeys spareNumbers
  else
    ckI x6 60 <|
    b_Su_merge_86 F k_35 x1 x2 x3 x4 x5 x6 x7 x8 ((keys x6.toNatClampNeg) + x1) count keys numbers spareKeys spareNumbers
def b_Su_merge_35 (F : Nat) : Nat → Int32 → Int32 → Int32 → Int32 → Int32 → Int32 → Int32 → Int32 → Int32 → (Nat → Int32) → (Nat → Int32) → (Nat → Int32) → (Nat → Int32) → Option (Int32 × Int32 × (Nat → Int32) × (Nat → Int32) × (Nat → Int32) × (Nat → Int32))
  | 0, _, _, _, _, _, _, _, _, _, _, _, _, _ => none
  | n + 1, x1, x2, x3, x4, x5, x6, x7, x8, count, keys, numbers, spareKeys, spareNumbers =>
    if 120 ≤ x8 then
      b_Su_merge_237 F x5 count keys numbers spareKeys spareNumbers
    else
      if x6 < count then
        b_Su_merge_63 F (b_Su_merge_35 F n) x1 x2 x3 x4 x5 x6 x7 x8 count keys numbers spareKeys spareNumbers
      else
        if x7 < count then
          b_Su_merge_63 F (b_Su_merge_35 F n) x1 x2 x3 x4 x5 x6 x7 x8 count keys numbers spareKeys spareNumbers
        else
          b_Su_merge_237 F x5 count keys numbers spareKeys spareNumbers
def b_Su_merge_30 (F : Nat) (x1 : Int32) (x2 : Int32) (x3 : Int32) (x4 : Int32) (x5 : Int32) (x6 : Int32) (s0 : Int32) (count : Int32) (keys : Nat → Int32) (numbers : Nat → Int32) (spareKeys : Nat → Int32) (spareNumbers : Nat → Int32) : Option (Int32 × Int32 × (Nat → Int32) × (Nat → Int32) × (Nat → Int32) × (Nat → Int32)) :=
  b_Su_merge_35 F F x1 x2 x3 x4 x5 x6 s0 0 count keys numbers spareKeys spareNumbers
def f_Su_merge (F : Nat) (count : Int32) (keys : Nat → Int32) (numbers : Nat → Int32) (spareKeys : Nat → Int32) (spareNumbers : Nat → Int32) (p1 : Int32) (p2 : Int32) (p3 : Int32) (p4 : Int32) : Option (Int32 × Int32 × (Nat → Int32) × (Nat → Int32) × (Nat → Int32) × (Nat → Int32)) :=
  (f_Su_seek F count keys 0 p1 0).bind fun u_1 =>
  if p3 = 0 then
    b_Su_merge_30 F p1 p2 p3 p4 0 u_1 count count keys numbers spareKeys spareNumbers
  else
    (f_Su_seek F count keys 0 p3 p3).bind fun u_3 =>
    b_Su_merge_30 F p1 p2 p3 p4 0 u_1 u_3 count keys numbers spareKeys spareNumbers
abbrev rm_Su_merge : Room := { frames := 3, cells := 0, slots := 0, locals := 62 }
set_option maxHeartbeats 4000000 in
set_option maxRecDepth 100000 in
theorem c_Su_merge (l : Launch) (dC : Nat → ClassId) (dI : Nat → Nat → Nat) (cI cJ : ClassId) (a_p0 a_keys a_numbers a_spareKeys a_spareNumbers : Nat) (sz : Nat) (count : Int32) (keys : Nat → Int32) (numbers : Nat → Int32) (spareKeys : Nat → Int32) (spareNumbers : Nat → Int32) (p1 : Int32) (p2 : Int32) (p3 : Int32) (p4 : Int32) (F : Nat) (u : Int32 × Int32 × (Nat → Int32) × (Nat → Int32) × (Nat → Int32) × (Nat → Int32)) (hf : f_Su_merge F count keys numbers spareKeys spareNumbers p1 p2 p3 p4 = some u) : Met l y_Su_merge (Cond.code y_Su_merge prog_3_method_11_code 13 (some .boolean) :: T0) rm_Su_merge (va_Pc [.ref a_p0, .int p1, .int p2, .int p3, .int p4] (Ww (dC, dI) [(a_p0, .inr (1, [.ref a_keys, .ref a_numbers, .ref a_spareKeys, .ref a_spareNumbers, .int count])), (a_keys, .inl (cI, 60, .inl keys)), (a_numbers, .inl (cI, 60, .inl numbers)), (a_spareKeys, .inl (cI, 60, .inl spareKeys)), (a_spareNumbers, .inl (cI, 60, .inl spareNumbers))] [(cI, .int), (cJ, .long)] sz)) (va_Qi (fun r (_ : Unit) => r = u.1) (Bw (dC, dI) [(cI, .int), (cJ, .long)] (va_A [(a_p0, .inr (1, [.ref a_keys, .ref a_numbers, .ref a_spareKeys, .ref a_spareNumbers, .int count])), (a_keys, .inl (cI, 60, .inl keys)), (a_numbers, .inl (cI, 60, .inl numbers)), (a_spareKeys, .inl (cI, 60, .inl spareKeys)), (a_spareNumbers, .inl (cI, 60, .inl spareNumbers))] sz) (fun w1 => ∃ q_keys q_numbers q_spareKeys q_spareNumbers : Nat, w1 = [(a_p0, .inr (1, [.ref q_keys, .ref q_numbers, .ref q_spareKeys, .ref q_spareNumbers, .int u.2.1])), (q_keys, .inl (cI, 60, .inl u.2.2.1)), (q_numbers, .inl (cI, 60, .inl u.2.2.2.1)), (q_spareKeys, .inl (cI, 60, .inl u.2.2.2.2.1)), (q_spareNumbers, .inl (cI, 60, .inl u.2.2.2.2.2))])) (va_A [(a_p0, .inr (1, [.ref a_keys, .ref a_numbers, .ref a_spareKeys, .ref a_spareNumbers, .int count])), (a_keys, .inl (cI, 60, .inl keys)), (a_numbers, .inl (cI, 60, .inl numbers)), (a_spareKeys, .inl (cI, 60, .inl spareKeys)), (a_spareNumbers, .inl (cI, 60, .inl spareNumbers))] sz)) 0 0 (va_A [(a_p0, .inr (1, [.ref a_keys, .ref a_numbers, .ref a_spareKeys, .ref a_spareNumbers, .int count])), (a_keys, .inl (cI, 60, .inl keys)), (a_numbers, .inl (cI, 60, .inl numbers)), (a_spareKeys, .inl (cI, 60, .inl spareKeys)), (a_spareNumbers, .inl (cI, 60, .inl spareNumbers))] sz) := by
  refine Met.ofW (cc := prog_3_method_11_code) (maxL := 13) (ret := (some .boolean)) (by decide) rfl ?_
  intro p e s m args below meth c s₁ B hml hv
  obtain ⟨rfl, hsz, hP, hK, hD0, hNW⟩ := hv
  have hx := B.exec
  have hb := B.bytes
  have hr := B.returns
  have hts := atoms_spec (ws := Cond.code y_Su_merge prog_3_method_11_code 13 (some .boolean) :: T0) B.pre
  have ht0 : ∀ w ∈ T0, w.before ([.ref a_p0, .int p1, .int p2, .int p3, .int p4] : List Value).toArray s = true := fun w h => hts w (List.mem_cons_of_mem _ h)
  have hown : s.vm.findClass "FermionMaps$Sum" = some m.cls := findClass_of_methodNamed B.named
  have hlocks := B.notSynchronized
  subst hsz
  have hD := hD0.self (sz := s.heap.size)
  generalize hAe : va_A [(a_p0, .inr (1, [.ref a_keys, .ref a_numbers, .ref a_spareKeys, .ref a_spareNumbers, .int count])), (a_keys, .inl (cI, 60, .inl keys)), (a_numbers, .inl (cI, 60, .inl numbers)), (a_spareKeys, .inl (cI, 60, .inl spareKeys)), (a_spareNumbers, .inl (cI, 60, .inl spareNumbers))] s.heap.size = A at hD ⊢
  have hA : ∀ q : Nat, s.heap.size ≤ q → A q := fun q h => by rw [← hAe]; exact Or.inr h
  have hS : va_S A s.heap s.heap [] := va_S.rf
  have hl := lv_entry ([.ref a_p0, .int p1, .int p2, .int p3, .int p4]) (n := 13) (Nat.le_of_ble_eq_true rfl)
  rw [lg_entry_eq]
  generalize (lg_sl ([.ref a_p0, .int p1, .int p2, .int p3, .int p4]) ++ List.replicate (13 - (lg_sl ([.ref a_p0, .int p1, .int p2, .int p3, .int p4])).length) Slot.unset).toArray = ls at hl ⊢
  have hl : lv_has ls 13 [(0, .ref a_p0), (1, .int p1), (2, .int p2), (3, .int p3), (4, .int p4)] := hl
  refine W.nameQ (fun Q hQ => ?_)
  have B_237 : ∀ (x5 : Int32) (count : Int32) (keys : Nat → Int32) (numbers : Nat → Int32) (spareKeys : Nat → Int32) (spareNumbers : Nat → Int32) (H : Heap) (locs : List Loc) (ls : Array Slot), b_Su_merge_237 F x5 count keys numbers spareKeys spareNumbers = some u → va_P (dC, dI) cls [(a_p0, .inr (1, [.ref a_keys, .ref a_numbers, .ref a_spareKeys, .ref a_spareNumbers, .int count])), (a_keys, .inl (cI, 60, .inl keys)), (a_numbers, .inl (cI, 60, .inl numbers)), (a_spareKeys, .inl (cI, 60, .inl spareKeys)), (a_spareNumbers, .inl (cI, 60, .inl spareNumbers))] H → va_D A [(a_p0, .inr (1, [.ref a_keys, .ref a_numbers, .ref a_spareKeys, .ref a_spareNumbers, .int count])), (a_keys, .inl (cI, 60, .inl keys)), (a_numbers, .inl (cI, 60, .inl numbers)), (a_spareKeys, .inl (cI, 60, .inl spareKeys)), (a_spareNumbers, .inl (cI, 60, .inl spareNumbers))] → va_S A s.heap H locs → lv_has ls 13 [(0, .ref a_p0), (5, .int x5)] → W p l e (headSpec (Cond.code y_Su_merge prog_3_method_11_code 13 (some .boolean) :: T0) rm_Su_merge).room s m ([.ref a_p0, .int p1, .int p2, .int p3, .int p4] : List Value).toArray below meth c H locs 0 0 Q (F0 m 237 ls []) := by
    intro x5 count keys numbers spareKeys spareNumbers H locs ls hf hP hD hS hl
    rw [b_Su_merge_237] at hf
    refine lv_aload_n hx hb d_Su_merge_237 rfl (lv_at hl 0 rfl) ?_
    refine lv_iload hx hb d_Su_merge_238 (lv_at hl 1 rfl) ?_
    obtain ⟨u_5, h_u_5, hf⟩ := bd hf
    refine wr_v (wr := []) (wrV_run (As := [.int x5]) (rest := []) ⟨hx, hb, hml, hown, ht0⟩ (c_Su_useSpare l dC dI cI cJ a_p0 a_keys a_numbers a_spareKeys a_spareNumbers H.size count keys numbers spareKeys spareNumbers x5 F u_5 h_u_5) (cwV 1 ht0 (gV m_208 m_209 m_210 m_2 m_211) rfl rfl rfl (by decide +kernel) ⟨Nat.le_of_ble_eq_true rfl, Nat.le_of_ble_eq_true rfl⟩) hK hNW hP hD [0, 1, 2, 3, 4] rfl rfl (by decide) (ci := 1) (q0 := 0) rfl rfl rfl hl.1 rfl (Nat.le_of_ble_eq_true rfl) d_Su_merge_240 ⟨Nat.zero_le _, Nat.zero_le _⟩) hP hD hS hA [0, 1, 2, 3, 4] [] rfl rfl (by decide) (by decide) (fun w1 H locs hw hP hD hS => ?_)
    obtain ⟨q_6, q_7, q_8, q_9, rfl⟩ := hw
    have hP : va_P (dC, dI) cls [(a_p0, .inr (1, [.ref q_6, .ref q_7, .ref q_8, .ref q_9, .int u_5.1])), (q_6, .inl (cI, 60, .inl u_5.2.1)), (q_7, .inl (cI, 60, .inl u_5.2.2.1)), (q_8, .inl (cI, 60, .inl u_5.2.2.2.1)), (q_9, .inl (cI, 60, .inl u_5.2.2.2.2))] H := hP.sub [0, 1, 2, 3, 4] rfl
    have hD : va_D A [(a_p0, .inr (1, [.ref q_6, .ref q_7, .ref q_8, .ref q_9, .int u_5.1])), (q_6, .inl (cI, 60, .inl u_5.2.1)), (q_7, .inl (cI, 60, .inl u_5.2.2.1)), (q_8, .inl (cI, 60, .inl u_5.2.2.2.1)), (q_9, .inl (cI, 60, .inl u_5.2.2.2.2))] := hD.sub [0, 1, 2, 3, 4] (by decide) rfl
    refine lv_iconst (v := 1) hx hb d_Su_merge_243 (by decide) ?_
    have hu := Option.some.inj hf
    subst hu
    exact rw_z hQ rfl rfl ⟨q_6, q_7, q_8, q_9, rfl⟩ hP hD hK hS hx hb hr hlocks d_Su_merge_244
  have B_231 : ∀ (k_35 : Int32 → Int32 → Int32 → Int32 → Int32 → Int32 → Int32 → Int32 → Int32 → (Nat → Int32) → (Nat → Int32) → (Nat → Int32) → (Nat → Int32) → Option (Int32 × Int32 × (Nat → Int32) × (Nat → Int32) × (Nat → Int32) × (Nat → Int32))) (hk_35 : ∀ (x1 : Int32) (x2 : Int32) (x3 : Int32) (x4 : Int32) (x5 : Int32) (x6 : Int32) (x7 : Int32) (x8 : Int32) (count : Int32) (keys : Nat → Int32) (numbers : Nat → Int32) (spareKeys : Nat → Int32) (spareNumbers : Nat → Int32) (H : Heap) (locs : List Loc) (ls : Array Slot), k_35 x1 x2 x3 x4 x5 x6 x7 x8 count keys numbers spareKeys spareNumbers = some u → va_P (dC, dI) cls [(a_p0, .inr (1, [.ref a_keys, .ref a_numbers, .ref a_spareKeys, .ref a_spareNumbers, .int count])), (a_keys, .inl (cI, 60, .inl keys)), (a_numbers, .inl (cI, 60, .inl numbers)), (a_spareKeys, .inl (cI, 60, .inl spareKeys)), (a_spareNumbers, .inl (cI, 60, .inl spareNumbers))] H → va_D A [(a_p0, .inr (1, [.ref a_keys, .ref a_numbers, .ref a_spareKeys, .ref a_spareNumbers, .int count])), (a_keys, .inl (cI, 60, .inl keys)), (a_numbers, .inl (cI, 60, .inl numbers)), (a_spareKeys, .inl (cI, 60, .inl spareKeys)), (a_spareNumbers, .inl (cI, 60, .inl spareNumbers))] → va_S A s.heap H locs → lv_has ls 13 [(0, .ref a_p0), (1, .int x1), (2, .int x2), (3, .int x3), (4, .int x4), (5, .int x5), (6, .int x6), (7, .int x7), (8, .int x8)] → W p l e (headSpec (Cond.code y_Su_merge prog_3_method_11_code 13 (some .boolean) :: T0) rm_Su_merge).room s m ([.ref a_p0, .int p1, .int p2, .int p3, .int p4] : List Value).toArray below meth c H locs 0 0 Q (F0 m 35 ls [])), ∀ (x1 : Int32) (x2 : Int32) (x3 : Int32) (x4 : Int32) (x5 : Int32) (x6 : Int32) (x7 : Int32) (x8 : Int32) (count : Int32) (keys : Nat → Int32) (numbers : Nat → Int32) (spareKeys : Nat → Int32) (spareNumbers : Nat → Int32) (H : Heap) (locs : List Loc) (ls : Array Slot), b_Su_merge_231 F k_35 x1 x2 x3 x4 x5 x6 x7 x8 count keys numbers spareKeys spareNumbers = some u → va_P (dC, dI) cls [(a_p0, .inr (1, [.ref a_keys, .ref a_numbers, .ref a_spareKeys, .ref a_spareNumbers, .int count])), (a_keys, .inl (cI, 60, .inl keys)), (a_numbers, .inl (cI, 60, .inl numbers)), (a_spareKeys, .inl (cI, 60, .inl spareKeys)), (a_spareNumbers, .inl (cI, 60, .inl spareNumbers))] H → va_D A [(a_p0, .inr (1, [.ref a_keys, .ref a_numbers, .ref a_spareKeys, .ref a_spareNumbers, .int count])), (a_keys, .inl (cI, 60, .inl keys)), (a_numbers, .inl (cI, 60, .inl numbers)), (a_spareKeys, .inl (cI, 60, .inl spareKeys)), (a_spareNumbers, .inl (cI, 60, .inl spareNumbers))] → va_S A s.heap H locs → lv_has ls 13 [(0, .ref a_p0), (1, .int x1), (2, .int x2), (3, .int x3), (4, .int x4), (5, .int x5), (6, .int x6), (7, .int x7), (8, .int x8)] → W p l e (headSpec (Cond.code y_Su_merge prog_3_method_11_code 13 (some .boolean) :: T0) rm_Su_merge).room s m ([.ref a_p0, .int p1, .int p2, .int p3, .int p4] : List Value).toArray below meth c H locs 0 0 Q (F0 m 231 ls []) := by
    intro k_35 hk_35
    intro x1 x2 x3 x4 x5 x6 x7 x8 count keys numbers spareKeys spareNumbers H locs ls hf hP hD hS hl
    rw [b_Su_merge_231] at hf
    obtain ⟨x8_17, e_x8_17⟩ : ∃ y : Int32, y = x8 + 1 := ⟨_, rfl⟩
    replace hf := nm_eq e_x8_17 hf
    refine lv_iinc (v := x8_17) (lv' := [(8, .int x8_17), (0, .ref a_p0), (1, .int x1), (2, .int x2), (3, .int x3), (4, .int x4), (5, .int x5), (6, .int x6), (7, .int x7)]) hx hb d_Su_merge_231 hl (k := 8) rfl (by rw [e_x8_17]; rfl) (by decide) rfl (fun ls hl => ?_)
    refine lv_goto (tgt := 35) hx hb d_Su_merge_234 (by decide) ?_
    exact hk_35 x1 x2 x3 x4 x5 x6 x7 x8_17 count keys numbers spareKeys spareNumbers H locs ls hf hP hD hS (lv_sub hl [1, 2, 3, 4, 5, 6, 7, 8, 0] rfl)
  have B_188 : ∀ (k_35 : Int32 → Int32 → Int32 → Int32 → Int32 → Int32 → Int32 → Int32 → Int32 → (Nat → Int32) → (Nat → Int32) → (Nat → Int32) → (Nat → Int32) → Option (Int32 × Int32 × (Nat → Int32) × (Nat → Int32) × (Nat → Int32) × (Nat → Int32))) (hk_35 : ∀ (x1 : Int32) (x2 : Int32) (x3 : Int32) (x4 : Int32) (x5 : Int32) (x6 : Int32) (x7 : Int32) (x8 : Int32) (count : Int32) (keys : Nat → Int32) (numbers : Nat → Int32) (spareKeys : Nat → Int32) (spareNumbers : Nat → Int32) (H : Heap) (locs : List Loc) (ls : Array Slot), k_35 x1 x2 x3 x4 x5 x6 x7 x8 count keys numbers spareKeys spareNumbers = some u → va_P (dC, dI) cls [(a_p0, .inr (1, [.ref a_keys, .ref a_numbers, .ref a_spareKeys, .ref a_spareNumbers, .int count])), (a_keys, .inl (cI, 60, .inl keys)), (a_numbers, .inl (cI, 60, .inl numbers)), (a_spareKeys, .inl (cI, 60, .inl spareKeys)), (a_spareNumbers, .inl (cI, 60, .inl spareNumbers))] H → va_D A [(a_p0, .inr (1, [.ref a_keys, .ref a_numbers, .ref a_spareKeys, .ref a_spareNumbers, .int count])), (a_keys, .inl (cI, 60, .inl keys)), (a_numbers, .inl (cI, 60, .inl numbers)), (a_spareKeys, .inl (cI, 60, .inl spareKeys)), (a_spareNumbers, .inl (cI, 60, .inl spareNumbers))] → va_S A s.heap H locs → lv_has ls 13 [(0, .ref a_p0), (1, .int x1), (2, .int x2), (3, .int x3), (4, .int x4), (5, .int x5), (6, .int x6), (7, .int x7), (8, .int x8)] → W p l e (headSpec (Cond.code y_Su_merge prog_3_method_11_code 13 (some .boolean) :: T0) rm_Su_merge).room s m ([.ref a_p0, .int p1, .int p2, .int p3, .int p4] : List Value).toArray below meth c H locs 0 0 Q (F0 m 35 ls [])), ∀ (x1 : Int32) (x2 : Int32) (x3 : Int32) (x4 : Int32) (x5 : Int32) (x6 : Int32) (x7 : Int32) (x8 : Int32) (x11 : Int32) (x12 : Int32) (count : Int32) (keys : Nat → Int32) (numbers : Nat → Int32) (spareKeys : Nat → Int32) (spareNumbers : Nat → Int32) (H : Heap) (locs : List Loc) (ls : Array Slot), b_Su_merge_188 F k_35 x1 x2 x3 x4 x5 x6 x7 x8 x11 x12 count keys numbers spareKeys spareNumbers = some u → va_P (dC, dI) cls [(a_p0, .inr (1, [.ref a_keys, .ref a_numbers, .ref a_spareKeys, .ref a_spareNumbers, .int count])), (a_keys, .inl (cI, 60, .inl keys)), (a_numbers, .inl (cI, 60, .inl numbers)), (a_spareKeys, .inl (cI, 60, .inl spareKeys)), (a_spareNumbers, .inl (cI, 60, .inl spareNumbers))] H → va_D A [(a_p0, .inr (1, [.ref a_keys, .ref a_numbers, .ref a_spareKeys, .ref a_spareNumbers, .int count])), (a_keys, .inl (cI, 60, .inl keys)), (a_numbers, .inl (cI, 60, .inl numbers)), (a_spareKeys, .inl (cI, 60, .inl spareKeys)), (a_spareNumbers, .inl (cI, 60, .inl spareNumbers))] → va_S A s.heap H locs → lv_has ls 13 [(0, .ref a_p0), (1, .int x1), (2, .int x2), (3, .int x3), (4, .int x4), (5, .int x5), (6, .int x6), (7, .int x7), (8, .int x8), (11, .int x11), (12, .int x12)] → W p l e (headSpec (Cond.code y_Su_merge prog_3_method_11_code 13 (some .boolean) :: T0) rm_Su_merge).room s m ([.ref a_p0, .int p1, .int p2, .int p3, .int p4] : List Value).toArray below meth c H locs 0 0 Q (F0 m 188 ls []) := by
    intro k_35 hk_35
    intro x1 x2 x3 x4 x5 x6 x7 x8 x11 x12 count keys numbers spareKeys spareNumbers H locs ls hf hP hD hS hl
    rw [b_Su_merge_188] at hf
    refine lv_iload hx hb d_Su_merge_188 (lv_at hl 10 rfl) ?_
    refine lv_if_eq (tgt := 231) hx hb d_Su_merge_190 (by decide) (fun c_16 => ?_) (fun c_16 => ?_)
    · replace hf := if_t c_16 hf
      exact B_231 k_35 hk_35 x1 x2 x3 x4 x5 x6 x7 x8 count keys numbers spareKeys spareNumbers H locs ls hf hP hD hS (lv_sub hl [0, 1, 2, 3, 4, 5, 6, 7, 8] rfl)
    · replace hf := if_f c_16 hf
      refine lv_iload hx hb d_Su_merge_193 (lv_at hl 5 rfl) ?_
      refine lv_bipush (v := 60) hx hb d_Su_merge_195 (by decide) ?_
      refine lv_icmp_ge (tgt := 208) hx hb d_Su_merge_197 (by decide) (fun c_18 => ?_) (fun c_18 => ?_)
      · replace hf := if_t c_18 hf
        refine lv_iconst (v := 0) hx hb d_Su_merge_208 (by decide) ?_
        have hu := Option.some.inj hf
        subst hu
        exact rw_z hQ rfl rfl ⟨a_keys, a_numbers, a_spareKeys, a_spareNumbers, rfl⟩ hP hD hK hS hx hb hr hlocks d_Su_merge_209
      · replace hf := if_f c_18 hf
        refine lv_iload hx hb d_Su_merge_200 (lv_at hl 10 rfl) ?_
        obtain ⟨u_19, h_u_19, hf⟩ := bd hf
        refine rd_i (rdSN_run (As := [.int x12]) (rest := []) ⟨hx, hb, hml, hown, ht0⟩ (c_FM_isBeyond l dC dI cI cJ x12 F u_19 h_u_19) ⟨va_cnB (host := "FermionMaps") 1 ht0 (gC m_155) rfl rfl rfl (nw_Su_58 hNW) (ht0 _ m_1) (by decide +kernel) ⟨Nat.le_of_ble_eq_true rfl, Nat.le_of_ble_eq_true rfl⟩, ht0 _ m_154, trivial⟩ hK hNW hP [] rfl  rfl hl.1 rfl (Nat.le_of_ble_eq_true rfl) d_Su_merge_202 ⟨Nat.zero_le _, Nat.zero_le _⟩) ?_
        refine lv_if_eq (tgt := 210) hx hb d_Su_merge_205 (by decide) (fun c_20 => ?_) (fun c_20 => ?_)
        · replace hf := if_t c_20 hf
          refine lv_aload_n hx hb d_Su_merge_210 rfl (lv_at hl 0 rfl) ?_
          refine va_get (D := (dC, dI)) (ci := 1) (v := .ref a_spareKeys) (C := "FermionMaps$Sum") (T := F_Su) (N := 5) hx hb ht0 i_Su hown hK hP 0 rfl rfl 2 (by decide) (ht0 _ m_30) (fun _ h9 => h9) rfl d_Su_merge_211 ?_
          refine lv_iload hx hb d_Su_merge_214 (lv_at hl 5 rfl) ?_
          refine lv_iload hx hb d_Su_merge_216 (lv_at hl 9 rfl) ?_
          obtain ⟨hi_21, hf⟩ := ckI_ok hf
          refine va_iast hx hb hK hP hD hS 3 0 rfl rfl hi_21 d_Su_merge_218 (fun H locs hP hD hS => ?_)
          have hP : va_P (dC, dI) cls [(a_p0, .inr (1, [.ref a_keys, .ref a_numbers, .ref a_spareKeys, .ref a_spareNumbers, .int count])), (a_keys, .inl (cI, 60, .inl keys)), (a_numbers, .inl (cI, 60, .inl numbers)), (a_spareKeys, .inl (cI, 60, .inl (upd spareKeys x5.toNatClampNeg x11))), (a_spareNumbers, .inl (cI, 60, .inl spareNumbers))] H := hP
          have hD : va_D A [(a_p0, .inr (1, [.ref a_keys, .ref a_numbers, .ref a_spareKeys, .ref a_spareNumbers, .int count])), (a_keys, .inl (cI, 60, .inl keys)), (a_numbers, .inl (cI, 60, .inl numbers)), (a_spareKeys, .inl (cI, 60, .inl (upd spareKeys x5.toNatClampNeg x11))), (a_spareNumbers, .inl (cI, 60, .inl spareNumbers))] := hD
          refine lv_aload_n hx hb d_Su_merge_219 rfl (lv_at hl 0 rfl) ?_
          refine va_get (D := (dC, dI)) (ci := 1) (v := .ref a_spareNumbers) (C := "FermionMaps$Sum") (T := F_Su) (N := 5) hx hb ht0 i_Su hown hK hP 0 rfl rfl 3 (by decide) (ht0 _ m_31) (fun _ h9 => h9) rfl d_Su_merge_220 ?_
          refine lv_iload hx hb d_Su_merge_223 (lv_at hl 5 rfl) ?_
          refine lv_iload hx hb d_Su_merge_225 (lv_at hl 10 rfl) ?_
          obtain ⟨hi_22, hf⟩ := ckI_ok hf
          refine va_iast hx hb hK hP hD hS 4 0 rfl rfl hi_22 d_Su_merge_227 (fun H locs hP hD hS => ?_)
          have hP : va_P (dC, dI) cls [(a_p0, .inr (1, [.ref a_keys, .ref a_numbers, .ref a_spareKeys, .ref a_spareNumbers, .int count])), (a_keys, .inl (cI, 60, .inl keys)), (a_numbers, .inl (cI, 60, .inl numbers)), (a_spareKeys, .inl (cI, 60, .inl (upd spareKeys x5.toNatClampNeg x11))), (a_spareNumbers, .inl (cI, 60, .inl (upd spareNumbers x5.toNatClampNeg x12)))] H := hP
          have hD : va_D A [(a_p0, .inr (1, [.ref a_keys, .ref a_numbers, .ref a_spareKeys, .ref a_spareNumbers, .int count])), (a_keys, .inl (cI, 60, .inl keys)), (a_numbers, .inl (cI, 60, .inl numbers)), (a_spareKeys, .inl (cI, 60, .inl (upd spareKeys x5.toNatClampNeg x11))), (a_spareNumbers, .inl (cI, 60, .inl (upd spareNumbers x5.toNatClampNeg x12)))] := hD
          obtain ⟨x5_23, e_x5_23⟩ : ∃ y : Int32, y = x5 + 1 := ⟨_, rfl⟩
          replace hf := nm_eq e_x5_23 hf
          refine lv_iinc (v := x5_23) (lv' := [(5, .int x5_23), (0, .ref a_p0), (1, .int x1), (2, .int x2), (3, .int x3), (4, .int x4), (6, .int x6), (7, .int x7), (8, .int x8), (11, .int x11), (12, .int x12)]) hx hb d_Su_merge_228 hl (k := 5) rfl (by rw [e_x5_23]; rfl) (by decide) rfl (fun ls hl => ?_)
          exact B_231 k_35 hk_35 x1 x2 x3 x4 x5_23 x6 x7 x8 count keys numbers (upd spareKeys x5.toNatClampNeg x11) (upd spareNumbers x5.toNatClampNeg x12) H locs ls hf hP hD hS (lv_sub hl [1, 2, 3, 4, 5, 0, 6, 7, 8] rfl)
        · replace hf := if_f c_20 hf
          refine lv_iconst (v := 0) hx hb d_Su_merge_208 (by decide) ?_
          have hu := Option.some.inj hf
          subst hu
          exact rw_z hQ rfl rfl ⟨a_keys, a_numbers, a_spareKeys, a_spareNumbers, rfl⟩ hP hD hK hS hx hb hr hlocks d_Su_merge_209
  have B_156 : ∀ (k_35 : Int32 → Int32 → Int32 → Int32 → Int32 → Int32 → Int32 → Int32 → Int32 → (Nat → Int32) → (Nat → Int32) → (Nat → Int32) → (Nat → Int32) → Option (Int32 × Int32 × (Nat → Int32) × (Nat → Int32) × (Nat → Int32) × (Nat → Int32))) (hk_35 : ∀ (x1 : Int32) (x2 : Int32) (x3 : Int32) (x4 : Int32) (x5 : Int32) (x6 : Int32) (x7 : Int32) (x8 : Int32) (count : Int32) (keys : Nat → Int32) (numbers : Nat → Int32) (spareKeys : Nat → Int32) (spareNumbers : Nat → Int32) (H : Heap) (locs : List Loc) (ls : Array Slot), k_35 x1 x2 x3 x4 x5 x6 x7 x8 count keys numbers spareKeys spareNumbers = some u → va_P (dC, dI) cls [(a_p0, .inr (1, [.ref a_keys, .ref a_numbers, .ref a_spareKeys, .ref a_spareNumbers, .int count])), (a_keys, .inl (cI, 60, .inl keys)), (a_numbers, .inl (cI, 60, .inl numbers)), (a_spareKeys, .inl (cI, 60, .inl spareKeys)), (a_spareNumbers, .inl (cI, 60, .inl spareNumbers))] H → va_D A [(a_p0, .inr (1, [.ref a_keys, .ref a_numbers, .ref a_spareKeys, .ref a_spareNumbers, .int count])), (a_keys, .inl (cI, 60, .inl keys)), (a_numbers, .inl (cI, 60, .inl numbers)), (a_spareKeys, .inl (cI, 60, .inl spareKeys)), (a_spareNumbers, .inl (cI, 60, .inl spareNumbers))] → va_S A s.heap H locs → lv_has ls 13 [(0, .ref a_p0), (1, .int x1), (2, .int x2), (3, .int x3), (4, .int x4), (5, .int x5), (6, .int x6), (7, .int x7), (8, .int x8)] → W p l e (headSpec (Cond.code y_Su_merge prog_3_method_11_code 13 (some .boolean) :: T0) rm_Su_merge).room s m ([.ref a_p0, .int p1, .int p2, .int p3, .int p4] : List Value).toArray below meth c H locs 0 0 Q (F0 m 35 ls [])), ∀ (x1 : Int32) (x2 : Int32) (x3 : Int32) (x4 : Int32) (x5 : Int32) (x6 : Int32) (x7 : Int32) (x8 : Int32) (x10 : Int32) (x11 : Int32) (x12 : Int32) (count : Int32) (keys : Nat → Int32) (numbers : Nat → Int32) (spareKeys : Nat → Int32) (spareNumbers : Nat → Int32) (H : Heap) (locs : List Loc) (ls : Array Slot), b_Su_merge_156 F k_35 x1 x2 x3 x4 x5 x6 x7 x8 x10 x11 x12 count keys numbers spareKeys spareNumbers = some u → va_P (dC, dI) cls [(a_p0, .inr (1, [.ref a_keys, .ref a_numbers, .ref a_spareKeys, .ref a_spareNumbers, .int count])), (a_keys, .inl (cI, 60, .inl keys)), (a_numbers, .inl (cI, 60, .inl numbers)), (a_spareKeys, .inl (cI, 60, .inl spareKeys)), (a_spareNumbers, .inl (cI, 60, .inl spareNumbers))] H → va_D A [(a_p0, .inr (1, [.ref a_keys, .ref a_numbers, .ref a_spareKeys, .ref a_spareNumbers, .int count])), (a_keys, .inl (cI, 60, .inl keys)), (a_numbers, .inl (cI, 60, .inl numbers)), (a_spareKeys, .inl (cI, 60, .inl spareKeys)), (a_spareNumbers, .inl (cI, 60, .inl spareNumbers))] → va_S A s.heap H locs → lv_has ls 13 [(0, .ref a_p0), (1, .int x1), (2, .int x2), (3, .int x3), (4, .int x4), (5, .int x5), (6, .int x6), (7, .int x7), (8, .int x8), (10, .int x10), (11, .int x11), (12, .int x12)] → W p l e (headSpec (Cond.code y_Su_merge prog_3_method_11_code 13 (some .boolean) :: T0) rm_Su_merge).room s m ([.ref a_p0, .int p1, .int p2, .int p3, .int p4] : List Value).toArray below meth c H locs 0 0 Q (F0 m 156 ls []) := by
    intro k_35 hk_35
    intro x1 x2 x3 x4 x5 x6 x7 x8 x10 x11 x12 count keys numbers spareKeys spareNumbers H locs ls hf hP hD hS hl
    rw [b_Su_merge_156] at hf
    refine lv_iload hx hb d_Su_merge_156 (lv_at hl 9 rfl) ?_
    refine lv_iload hx hb d_Su_merge_158 (lv_at hl 10 rfl) ?_
    refine lv_icmp_ne (tgt := 188) hx hb d_Su_merge_160 (by decide) (fun c_15 => ?_) (fun c_15 => ?_)
    · replace hf := if_f c_15 hf
      exact B_188 k_35 hk_35 x1 x2 x3 x4 x5 x6 x7 x8 x11 x12 count keys numbers spareKeys spareNumbers H locs ls hf hP hD hS (lv_sub hl [0, 1, 2, 3, 4, 5, 6, 7, 8, 10, 11] rfl)
    · replace hf := if_t c_15 hf
      refine lv_iload hx hb d_Su_merge_163 (lv_at hl 11 rfl) ?_
      refine lv_aload_n hx hb d_Su_merge_165 rfl (lv_at hl 0 rfl) ?_
      refine lv_iload hx hb d_Su_merge_166 (lv_at hl 7 rfl) ?_
      refine lv_iload hx hb d_Su_merge_168 (lv_at hl 4 rfl) ?_
      obtain ⟨u_24, h_u_24, hf⟩ := bd hf
      refine rd_i (rdV_run (As := [.int x7, .int x4]) (rest := [.int x12]) ⟨hx, hb, hml, hown, ht0⟩ (c_Su_signed l dC dI cI cJ a_p0 a_keys a_numbers a_spareKeys a_spareNumbers count keys numbers x7 x4 F u_24 h_u_24) (cwV 2 ht0 (gV m_195 m_196 m_197 m_2 m_198) rfl rfl rfl (by decide +kernel) ⟨Nat.le_of_ble_eq_true rfl, Nat.le_of_ble_eq_true rfl⟩) hK hNW hP [0, 1, 2] rfl (ci := 1) (q0 := 0) rfl rfl rfl hl.1 rfl (Nat.le_of_ble_eq_true rfl) d_Su_merge_170 ⟨Nat.zero_le _, Nat.zero_le _⟩) ?_
      refine lv_iadd hx hb d_Su_merge_173 ?_
      refine lv_topi (fun x12_25 e_x12_25 => ?_)
      replace hf := nm_eq e_x12_25 hf
      refine lv_istore (lv' := [(12, .int x12_25), (0, .ref a_p0), (1, .int x1), (2, .int x2), (3, .int x3), (4, .int x4), (5, .int x5), (6, .int x6), (7, .int x7), (8, .int x8), (10, .int x10), (11, .int x11)]) hx hb d_Su_merge_174 hl (by decide) rfl (fun ls hl => ?_)
      refine lv_aload_n hx hb d_Su_merge_176 rfl (lv_at hl 1 rfl) ?_
      refine lv_iload hx hb d_Su_merge_177 (lv_at hl 8 rfl) ?_
      refine lv_iconst (v := 1) hx hb d_Su_merge_179 (by decide) ?_
      refine lv_iadd hx hb d_Su_merge_180 ?_
      refine lv_iload_n hx hb d_Su_merge_181 rfl (lv_at hl 4 rfl) ?_
      refine lv_iload_n hx hb d_Su_merge_182 rfl (lv_at hl 4 rfl) ?_
      obtain ⟨u_26, h_u_26, hf⟩ := bd hf
      refine rd_i (rdV_run (As := [.int (x7 + 1), .int x3, .int x3]) (rest := []) ⟨hx, hb, hml, hown, ht0⟩ (c_Su_seek l dC dI cI cJ a_p0 a_keys a_numbers a_spareKeys a_spareNumbers count keys (x7 + 1) x3 x3 F u_26 h_u_26) (cwV 3 ht0 (gV m_187 m_188 m_189 m_2 m_190) rfl rfl rfl (by decide +kernel) ⟨Nat.le_of_ble_eq_true rfl, Nat.le_of_ble_eq_true rfl⟩) hK hNW hP [0, 1] rfl (ci := 1) (q0 := 0) rfl rfl rfl hl.1 rfl (Nat.le_of_ble_eq_true rfl) d_Su_merge_183 ⟨Nat.zero_le _, Nat.zero_le _⟩) ?_
      refine lv_istore (lv' := [(7, .int u_26), (12, .int x12_25), (0, .ref a_p0), (1, .int x1), (2, .int x2), (3, .int x3), (4, .int x4), (5, .int x5), (6, .int x6), (8, .int x8), (10, .int x10), (11, .int x11)]) hx hb d_Su_merge_186 hl (by decide) rfl (fun ls hl => ?_)
      exact B_188 k_35 hk_35 x1 x2 x3 x4 x5 x6 u_26 x8 x11 x12_25 count keys numbers spareKeys spareNumbers H locs ls hf hP hD hS (lv_sub hl [2, 3, 4, 5, 6, 7, 8, 0, 9, 11, 1] rfl)
  have B_111 : ∀ (k_35 : Int32 → Int32 → Int32 → Int32 → Int32 → Int32 → Int32 → Int32 → Int32 → (Nat → Int32) → (Nat → Int32) → (Nat → Int32) → (Nat → Int32) → Option (Int32 × Int32 × (Nat → Int32) × (Nat → Int32) × (Nat → Int32) × (Nat → Int32))) (hk_35 : ∀ (x1 : Int32) (x2 : Int32) (x3 : Int32) (x4 : Int32) (x5 : Int32) (x6 : Int32) (x7 : Int32) (x8 : Int32) (count : Int32) (keys : Nat → Int32) (numbers : Nat → Int32) (spareKeys : Nat → Int32) (spareNumbers : Nat → Int32) (H : Heap) (locs : List Loc) (ls : Array Slot), k_35 x1 x2 x3 x4 x5 x6 x7 x8 count keys numbers spareKeys spareNumbers = some u → va_P (dC, dI) cls [(a_p0, .inr (1, [.ref a_keys, .ref a_numbers, .ref a_spareKeys, .ref a_spareNumbers, .int count])), (a_keys, .inl (cI, 60, .inl keys)), (a_numbers, .inl (cI, 60, .inl numbers)), (a_spareKeys, .inl (cI, 60, .inl spareKeys)), (a_spareNumbers, .inl (cI, 60, .inl spareNumbers))] H → va_D A [(a_p0, .inr (1, [.ref a_keys, .ref a_numbers, .ref a_spareKeys, .ref a_spareNumbers, .int count])), (a_keys, .inl (cI, 60, .inl keys)), (a_numbers, .inl (cI, 60, .inl numbers)), (a_spareKeys, .inl (cI, 60, .inl spareKeys)), (a_spareNumbers, .inl (cI, 60, .inl spareNumbers))] → va_S A s.heap H locs → lv_has ls 13 [(0, .ref a_p0), (1, .int x1), (2, .int x2), (3, .int x3), (4, .int x4), (5, .int x5), (6, .int x6), (7, .int x7), (8, .int x8)] → W p l e (headSpec (Cond.code y_Su_merge prog_3_method_11_code 13 (some .boolean) :: T0) rm_Su_merge).room s m ([.ref a_p0, .int p1, .int p2, .int p3, .int p4] : List Value).toArray below meth c H locs 0 0 Q (F0 m 35 ls [])), ∀ (x1 : Int32) (x2 : Int32) (x3 : Int32) (x4 : Int32) (x5 : Int32) (x6 : Int32) (x7 : Int32) (x8 : Int32) (x9 : Int32) (s0 : Int32) (count : Int32) (keys : Nat → Int32) (numbers : Nat → Int32) (spareKeys : Nat → Int32) (spareNumbers : Nat → Int32) (H : Heap) (locs : List Loc) (ls : Array Slot), b_Su_merge_111 F k_35 x1 x2 x3 x4 x5 x6 x7 x8 x9 s0 count keys numbers spareKeys spareNumbers = some u → va_P (dC, dI) cls [(a_p0, .inr (1, [.ref a_keys, .ref a_numbers, .ref a_spareKeys, .ref a_spareNumbers, .int count])), (a_keys, .inl (cI, 60, .inl keys)), (a_numbers, .inl (cI, 60, .inl numbers)), (a_spareKeys, .inl (cI, 60, .inl spareKeys)), (a_spareNumbers, .inl (cI, 60, .inl spareNumbers))] H → va_D A [(a_p0, .inr (1, [.ref a_keys, .ref a_numbers, .ref a_spareKeys, .ref a_spareNumbers, .int count])), (a_keys, .inl (cI, 60, .inl keys)), (a_numbers, .inl (cI, 60, .inl numbers)), (a_spareKeys, .inl (cI, 60, .inl spareKeys)), (a_spareNumbers, .inl (cI, 60, .inl spareNumbers))] → va_S A s.heap H locs → lv_has ls 13 [(0, .ref a_p0), (1, .int x1), (2, .int x2), (3, .int x3), (4, .int x4), (5, .int x5), (6, .int x6), (7, .int x7), (8, .int x8), (9, .int x9)] → W p l e (headSpec (Cond.code y_Su_merge prog_3_method_11_code 13 (some .boolean) :: T0) rm_Su_merge).room s m ([.ref a_p0, .int p1, .int p2, .int p3, .int p4] : List Value).toArray below meth c H locs 0 0 Q (F0 m 111 ls [.int s0]) := by
    intro k_35 hk_35
    intro x1 x2 x3 x4 x5 x6 x7 x8 x9 s0 count keys numbers spareKeys spareNumbers H locs ls hf hP hD hS hl
    rw [b_Su_merge_111] at hf
    refine lv_istore (lv' := [(10, .int s0), (0, .ref a_p0), (1, .int x1), (2, .int x2), (3, .int x3), (4, .int x4), (5, .int x5), (6, .int x6), (7, .int x7), (8, .int x8), (9, .int x9)]) hx hb d_Su_merge_111 hl (by decide) rfl (fun ls hl => ?_)
    refine lv_iload hx hb d_Su_merge_113 (lv_at hl 10 rfl) ?_
    refine lv_iload hx hb d_Su_merge_115 (lv_at hl 0 rfl) ?_
    refine va_mmin hx hb (hml.trans hl.1.symm) hown (ht0 _ m_192) (ht0 _ m_193) (ht0 _ m_6) (ht0 _ m_194) (Nat.le_of_ble_eq_true rfl) (Nat.le_of_ble_eq_true rfl) (Nat.zero_le _) (Nat.zero_le _) d_Su_merge_117 ?_
    refine lv_topi (fun t_13 e_t_13 => ?_)
    replace hf := nm_eq e_t_13 hf
    refine lv_istore (lv' := [(11, .int t_13), (10, .int s0), (0, .ref a_p0), (1, .int x1), (2, .int x2), (3, .int x3), (4, .int x4), (5, .int x5), (6, .int x6), (7, .int x7), (8, .int x8), (9, .int x9)]) hx hb d_Su_merge_120 hl (by decide) rfl (fun ls hl => ?_)
    refine lv_iconst (v := 0) hx hb d_Su_merge_122 (by decide) ?_
    refine lv_istore (lv' := [(12, .int 0), (11, .int t_13), (10, .int s0), (0, .ref a_p0), (1, .int x1), (2, .int x2), (3, .int x3), (4, .int x4), (5, .int x5), (6, .int x6), (7, .int x7), (8, .int x8), (9, .int x9)]) hx hb d_Su_merge_123 hl (by decide) rfl (fun ls hl => ?_)
    refine lv_iload hx hb d_Su_merge_125 (lv_at hl 12 rfl) ?_
    refine lv_iload hx hb d_Su_merge_127 (lv_at hl 1 rfl) ?_
    refine lv_icmp_ne (tgt := 156) hx hb d_Su_merge_129 (by decide) (fun c_14 => ?_) (fun c_14 => ?_)
    · replace hf := if_f c_14 hf
      exact B_156 k_35 hk_35 x1 x2 x3 x4 x5 x6 x7 x8 s0 t_13 0 count keys numbers spareKeys spareNumbers H locs ls hf hP hD hS (lv_sub hl [3, 4, 5, 6, 7, 8, 9, 10, 11, 2, 1, 0] rfl)
    · replace hf := if_t c_14 hf
      refine lv_iload hx hb d_Su_merge_132 (lv_at hl 0 rfl) ?_
      refine lv_aload_n hx hb d_Su_merge_134 rfl (lv_at hl 3 rfl) ?_
      refine lv_iload hx hb d_Su_merge_135 (lv_at hl 9 rfl) ?_
      refine lv_iload_n hx hb d_Su_merge_137 rfl (lv_at hl 5 rfl) ?_
      obtain ⟨u_27, h_u_27, hf⟩ := bd hf
      refine rd_i (rdV_run (As := [.int x6, .int x2]) (rest := [.int 0]) ⟨hx, hb, hml, hown, ht0⟩ (c_Su_signed l dC dI cI cJ a_p0 a_keys a_numbers a_spareKeys a_spareNumbers count keys numbers x6 x2 F u_27 h_u_27) (cwV 2 ht0 (gV m_195 m_196 m_197 m_2 m_198) rfl rfl rfl (by decide +kernel) ⟨Nat.le_of_ble_eq_true rfl, Nat.le_of_ble_eq_true rfl⟩) hK hNW hP [0, 1, 2] rfl (ci := 1) (q0 := 0) rfl rfl rfl hl.1 rfl (Nat.le_of_ble_eq_true rfl) d_Su_merge_138 ⟨Nat.zero_le _, Nat.zero_le _⟩) ?_
      refine lv_iadd hx hb d_Su_merge_141 ?_
      refine lv_topi (fun x12_28 e_x12_28 => ?_)
      replace hf := nm_eq e_x12_28 hf
      refine lv_istore (lv' := [(12, .int x12_28), (11, .int t_13), (10, .int s0), (0, .ref a_p0), (1, .int x1), (2, .int x2), (3, .int x3), (4, .int x4), (5, .int x5), (6, .int x6), (7, .int x7), (8, .int x8), (9, .int x9)]) hx hb d_Su_merge_142 hl (by decide) rfl (fun ls hl => ?_)
      refine lv_aload_n hx hb d_Su_merge_144 rfl (lv_at hl 3 rfl) ?_
      refine lv_iload hx hb d_Su_merge_145 (lv_at hl 9 rfl) ?_
      refine lv_iconst (v := 1) hx hb d_Su_merge_147 (by decide) ?_
      refine lv_iadd hx hb d_Su_merge_148 ?_
      refine lv_iload_n hx hb d_Su_merge_149 rfl (lv_at hl 4 rfl) ?_
      refine lv_iconst (v := 0) hx hb d_Su_merge_150 (by decide) ?_
      obtain ⟨u_29, h_u_29, hf⟩ := bd hf
      refine rd_i (rdV_run (As := [.int (x6 + 1), .int x1, .int 0]) (rest := []) ⟨hx, hb, hml, hown, ht0⟩ (c_Su_seek l dC dI cI cJ a_p0 a_keys a_numbers a_spareKeys a_spareNumbers count keys (x6 + 1) x1 0 F u_29 h_u_29) (cwV 3 ht0 (gV m_187 m_188 m_189 m_2 m_190) rfl rfl rfl (by decide +kernel) ⟨Nat.le_of_ble_eq_true rfl, Nat.le_of_ble_eq_true rfl⟩) hK hNW hP [0, 1] rfl (ci := 1) (q0 := 0) rfl rfl rfl hl.1 rfl (Nat.le_of_ble_eq_true rfl) d_Su_merge_151 ⟨Nat.zero_le _, Nat.zero_le _⟩) ?_
      refine lv_istore (lv' := [(6, .int u_29), (12, .int x12_28), (11, .int t_13), (10, .int s0), (0, .ref a_p0), (1, .int x1), (2, .int x2), (3, .int x3), (4, .int x4), (5, .int x5), (7, .int x7), (8, .int x8), (9, .int x9)]) hx hb d_Su_merge_154 hl (by decide) rfl (fun ls hl => ?_)
      exact B_156 k_35 hk_35 x1 x2 x3 x4 x5 u_29 x7 x8 s0 t_13 x12_28 count keys numbers spareKeys spareNumbers H locs ls hf hP hD hS (lv_sub hl [4, 5, 6, 7, 8, 9, 0, 10, 11, 3, 2, 1] rfl)
  have B_86 : ∀ (k_35 : Int32 → Int32 → Int32 → Int32 → Int32 → Int32 → Int32 → Int32 → Int32 → (Nat → Int32) → (Nat → Int32) → (Nat → Int32) → (Nat → Int32) → Option (Int32 × Int32 × (Nat → Int32) × (Nat → Int32) × (Nat → Int32) × (Nat → Int32))) (hk_35 : ∀ (x1 : Int32) (x2 : Int32) (x3 : Int32) (x4 : Int32) (x5 : Int32) (x6 : Int32) (x7 : Int32) (x8 : Int32) (count : Int32) (keys : Nat → Int32) (numbers : Nat → Int32) (spareKeys : Nat → Int32) (spareNumbers : Nat → Int32) (H : Heap) (locs : List Loc) (ls : Array Slot), k_35 x1 x2 x3 x4 x5 x6 x7 x8 count keys numbers spareKeys spareNumbers = some u → va_P (dC, dI) cls [(a_p0, .inr (1, [.ref a_keys, .ref a_numbers, .ref a_spareKeys, .ref a_spareNumbers, .int count])), (a_keys, .inl (cI, 60, .inl keys)), (a_numbers, .inl (cI, 60, .inl numbers)), (a_spareKeys, .inl (cI, 60, .inl spareKeys)), (a_spareNumbers, .inl (cI, 60, .inl spareNumbers))] H → va_D A [(a_p0, .inr (1, [.ref a_keys, .ref a_numbers, .ref a_spareKeys, .ref a_spareNumbers, .int count])), (a_keys, .inl (cI, 60, .inl keys)), (a_numbers, .inl (cI, 60, .inl numbers)), (a_spareKeys, .inl (cI, 60, .inl spareKeys)), (a_spareNumbers, .inl (cI, 60, .inl spareNumbers))] → va_S A s.heap H locs → lv_has ls 13 [(0, .ref a_p0), (1, .int x1), (2, .int x2), (3, .int x3), (4, .int x4), (5, .int x5), (6, .int x6), (7, .int x7), (8, .int x8)] → W p l e (headSpec (Cond.code y_Su_merge prog_3_method_11_code 13 (some .boolean) :: T0) rm_Su_merge).room s m ([.ref a_p0, .int p1, .int p2, .int p3, .int p4] : List Value).toArray below meth c H locs 0 0 Q (F0 m 35 ls [])), ∀ (x1 : Int32) (x2 : Int32) (x3 : Int32) (x4 : Int32) (x5 : Int32) (x6 : Int32) (x7 : Int32) (x8 : Int32) (s0 : Int32) (count : Int32) (keys : Nat → Int32) (numbers : Nat → Int32) (spareKeys : Nat → Int32) (spareNumbers : Nat → Int32) (H : Heap) (locs : List Loc) (ls : Array Slot), b_Su_merge_86 F k_35 x1 x2 x3 x4 x5 x6 x7 x8 s0 count keys numbers spareKeys spareNumbers = some u → va_P (dC, dI) cls [(a_p0, .inr (1, [.ref a_keys, .ref a_numbers, .ref a_spareKeys, .ref a_spareNumbers, .int count])), (a_keys, .inl (cI, 60, .inl keys)), (a_numbers, .inl (cI, 60, .inl numbers)), (a_spareKeys, .inl (cI, 60, .inl spareKeys)), (a_spareNumbers, .inl (cI, 60, .inl spareNumbers))] H → va_D A [(a_p0, .inr (1, [.ref a_keys, .ref a_numbers, .ref a_spareKeys, .ref a_spareNumbers, .int count])), (a_keys, .inl (cI, 60, .inl keys)), (a_numbers, .inl (cI, 60, .inl numbers)), (a_spareKeys, .inl (cI, 60, .inl spareKeys)), (a_spareNumbers, .inl (cI, 60, .inl spareNumbers))] → va_S A s.heap H locs → lv_has ls 13 [(0, .ref a_p0), (1, .int x1), (2, .int x2), (3, .int x3), (4, .int x4), (5, .int x5), (6, .int x6), (7, .int x7), (8, .int x8)] → W p l e (headSpec (Cond.code y_Su_merge prog_3_method_11_code 13 (some .boolean) :: T0) rm_Su_merge).room s m ([.ref a_p0, .int p1, .int p2, .int p3, .int p4] : List Value).toArray below meth c H locs 0 0 Q (F0 m 86 ls [.int s0]) := by
    intro k_35 hk_35
    intro x1 x2 x3 x4 x5 x6 x7 x8 s0 count keys numbers spareKeys spareNumbers H locs ls hf hP hD hS hl
    rw [b_Su_merge_86] at hf
    refine lv_istore (lv' := [(9, .int s0), (0, .ref a_p0), (1, .int x1), (2, .int x2), (3, .int x3), (4, .int x4), (5, .int x5), (6, .int x6), (7, .int x7), (8, .int x8)]) hx hb d_Su_merge_86 hl (by decide) rfl (fun ls hl => ?_)
    refine lv_iload hx hb d_Su_merge_88 (lv_at hl 8 rfl) ?_
    refine lv_aload_n hx hb d_Su_merge_90 rfl (lv_at hl 1 rfl) ?_
    refine va_get (D := (dC, dI)) (ci := 1) (v := .int count) (C := "FermionMaps$Sum") (T := F_Su) (N := 5) hx hb ht0 i_Su hown hK hP 0 rfl rfl 4 (by decide) (ht0 _ m_32) (fun _ h9 => h9) rfl d_Su_merge_91 ?_
    refine lv_icmp_ge (tgt := 109) hx hb d_Su_merge_94 (by decide) (fun c_12 => ?_) (fun c_12 => ?_)
    · replace hf := if_t c_12 hf
      refine lv_ldc hx hb hown (ht0 _ m_191) d_Su_merge_109 ?_
      exact B_111 k_35 hk_35 x1 x2 x3 x4 x5 x6 x7 x8 s0 65536 count keys numbers spareKeys spareNumbers H locs ls hf hP hD hS (lv_sub hl [1, 2, 3, 4, 5, 6, 7, 8, 9, 0] rfl)
    · replace hf := if_f c_12 hf
      refine lv_aload_n hx hb d_Su_merge_97 rfl (lv_at hl 1 rfl) ?_
      refine va_get (D := (dC, dI)) (ci := 1) (v := .ref a_keys) (C := "FermionMaps$Sum") (T := F_Su) (N := 5) hx hb ht0 i_Su hown hK hP 0 rfl rfl 0 (by decide) (ht0 _ m_26) (fun _ h9 => h9) rfl d_Su_merge_98 ?_
      refine lv_iload hx hb d_Su_merge_101 (lv_at hl 8 rfl) ?_
      obtain ⟨hi_30, hf⟩ := ckI_ok hf
      refine va_iald hx hb hK hP 1 0 rfl rfl hi_30 d_Su_merge_103 ?_
      refine lv_iload_n hx hb d_Su_merge_104 rfl (lv_at hl 4 rfl) ?_
      refine lv_isub hx hb d_Su_merge_105 ?_
      refine lv_goto (tgt := 111) hx hb d_Su_merge_106 (by decide) ?_
      exact B_111 k_35 hk_35 x1 x2 x3 x4 x5 x6 x7 x8 s0 ((keys x7.toNatClampNeg) - x3) count keys numbers spareKeys spareNumbers H locs ls hf hP hD hS (lv_sub hl [1, 2, 3, 4, 5, 6, 7, 8, 9, 0] rfl)
  have B_63 : ∀ (k_35 : Int32 → Int32 → Int32 → Int32 → Int32 → Int32 → Int32 → Int32 → Int32 → (Nat → Int32) → (Nat → Int32) → (Nat → Int32) → (Nat → Int32) → Option (Int32 × Int32 × (Nat → Int32) × (Nat → Int32) × (Nat → Int32) × (Nat → Int32))) (hk_35 : ∀ (x1 : Int32) (x2 : Int32) (x3 : Int32) (x4 : Int32) (x5 : Int32) (x6 : Int32) (x7 : Int32) (x8 : Int32) (count : Int32) (keys : Nat → Int32) (numbers : Nat → Int32) (spareKeys : Nat → Int32) (spareNumbers : Nat → Int32) (H : Heap) (locs : List Loc) (ls : Array Slot), k_35 x1 x2 x3 x4 x5 x6 x7 x8 count keys numbers spareKeys spareNumbers = some u → va_P (dC, dI) cls [(a_p0, .inr (1, [.ref a_keys, .ref a_numbers, .ref a_spareKeys, .ref a_spareNumbers, .int count])), (a_keys, .inl (cI, 60, .inl keys)), (a_numbers, .inl (cI, 60, .inl numbers)), (a_spareKeys, .inl (cI, 60, .inl spareKeys)), (a_spareNumbers, .inl (cI, 60, .inl spareNumbers))] H → va_D A [(a_p0, .inr (1, [.ref a_keys, .ref a_numbers, .ref a_spareKeys, .ref a_spareNumbers, .int count])), (a_keys, .inl (cI, 60, .inl keys)), (a_numbers, .inl (cI, 60, .inl numbers)), (a_spareKeys, .inl (cI, 60, .inl spareKeys)), (a_spareNumbers, .inl (cI, 60, .inl spareNumbers))] → va_S A s.heap H locs → lv_has ls 13 [(0, .ref a_p0), (1, .int x1), (2, .int x2), (3, .int x3), (4, .int x4), (5, .int x5), (6, .int x6), (7, .int x7), (8, .int x8)] → W p l e (headSpec (Cond.code y_Su_merge prog_3_method_11_code 13 (some .boolean) :: T0) rm_Su_merge).room s m ([.ref a_p0, .int p1, .int p2, .int p3, .int p4] : List Value).toArray below meth c H locs 0 0 Q (F0 m 35 ls [])), ∀ (x1 : Int32) (x2 : Int32) (x3 : Int32) (x4 : Int32) (x5 : Int32) (x6 : Int32) (x7 : Int32) (x8 : Int32) (count : Int32) (keys : Nat → Int32) (numbers : Nat → Int32) (spareKeys : Nat → Int32) (spareNumbers : Nat → Int32) (H : Heap) (locs : List Loc) (ls : Array Slot), b_Su_merge_63 F k_35 x1 x2 x3 x4 x5 x6 x7 x8 count keys numbers spareKeys spareNumbers = some u → va_P (dC, dI) cls [(a_p0, .inr (1, [.ref a_keys, .ref a_numbers, .ref a_spareKeys, .ref a_spareNumbers, .int count])), (a_keys, .inl (cI, 60, .inl keys)), (a_numbers, .inl (cI, 60, .inl numbers)), (a_spareKeys, .inl (cI, 60, .inl spareKeys)), (a_spareNumbers, .inl (cI, 60, .inl spareNumbers))] H → va_D A [(a_p0, .inr (1, [.ref a_keys, .ref a_numbers, .ref a_spareKeys, .ref a_spareNumbers, .int count])), (a_keys, .inl (cI, 60, .inl keys)), (a_numbers, .inl (cI, 60, .inl numbers)), (a_spareKeys, .inl (cI, 60, .inl spareKeys)), (a_spareNumbers, .inl (cI, 60, .inl spareNumbers))] → va_S A s.heap H locs → lv_has ls 13 [(0, .ref a_p0), (1, .int x1), (2, .int x2), (3, .int x3), (4, .int x4), (5, .int x5), (6, .int x6), (7, .int x7), (8, .int x8)] → W p l e (headSpec (Cond.code y_Su_merge prog_3_method_11_code 13 (some .boolean) :: T0) rm_Su_merge).room s m ([.ref a_p0, .int p1, .int p2, .int p3, .int p4] : List Value).toArray below meth c H locs 0 0 Q (F0 m 63 ls []) := by
    intro k_35 hk_35
    intro x1 x2 x3 x4 x5 x6 x7 x8 count keys numbers spareKeys spareNumbers H locs ls hf hP hD hS hl
    rw [b_Su_merge_63] at hf
    refine lv_iload hx hb d_Su_merge_63 (lv_at hl 6 rfl) ?_
    refine lv_aload_n hx hb d_Su_merge_65 rfl (lv_at hl 0 rfl) ?_
    refine va_get (D := (dC, dI)) (ci := 1) (v := .int count) (C := "FermionMaps$Sum") (T := F_Su) (N := 5) hx hb ht0 i_Su hown hK hP 0 rfl rfl 4 (by decide) (ht0 _ m_32) (fun _ h9 => h9) rfl d_Su_merge_66 ?_
    refine lv_icmp_ge (tgt := 84) hx hb d_Su_merge_69 (by decide) (fun c_11 => ?_) (fun c_11 => ?_)
    · replace hf := if_t c_11 hf
      refine lv_ldc hx hb hown (ht0 _ m_191) d_Su_merge_84 ?_
      exact B_86 k_35 hk_35 x1 x2 x3 x4 x5 x6 x7 x8 65536 count keys numbers spareKeys spareNumbers H locs ls hf hP hD hS (lv_sub hl [0, 1, 2, 3, 4, 5, 6, 7, 8] rfl)
    · replace hf := if_f c_11 hf
      refine lv_aload_n hx hb d_Su_merge_72 rfl (lv_at hl 0 rfl) ?_
      refine va_get (D := (dC, dI)) (ci := 1) (v := .ref a_keys) (C := "FermionMaps$Sum") (T := F_Su) (N := 5) hx hb ht0 i_Su hown hK hP 0 rfl rfl 0 (by decide) (ht0 _ m_26) (fun _ h9 => h9) rfl d_Su_merge_73 ?_
      refine lv_iload hx hb d_Su_merge_76 (lv_at hl 6 rfl) ?_
      obtain ⟨hi_31, hf⟩ := ckI_ok hf
      refine va_iald hx hb hK hP 1 0 rfl rfl hi_31 d_Su_merge_78 ?_
      refine lv_iload_n hx hb d_Su_merge_79 rfl (lv_at hl 1 rfl) ?_
      refine lv_iadd hx hb d_Su_merge_80 ?_
      refine lv_goto (tgt := 86) hx hb d_Su_merge_81 (by decide) ?_
      exact B_86 k_35 hk_35 x1 x2 x3 x4 x5 x6 x7 x8 ((keys x6.toNatClampNeg) + x1) count keys numbers spareKeys spareNumbers H locs ls hf hP hD hS (lv_sub hl [0, 1, 2, 3, 4, 5, 6, 7, 8] rfl)
  have B_35 : ∀ (n : Nat), ∀ (x1 : Int32) (x2 : Int32) (x3 : Int32) (x4 : Int32) (x5 : Int32) (x6 : Int32) (x7 : Int32) (x8 : Int32) (count : Int32) (keys : Nat → Int32) (numbers : Nat → Int32) (spareKeys : Nat → Int32) (spareNumbers : Nat → Int32) (H : Heap) (locs : List Loc) (ls : Array Slot), b_Su_merge_35 F n x1 x2 x3 x4 x5 x6 x7 x8 count keys numbers spareKeys spareNumbers = some u → va_P (dC, dI) cls [(a_p0, .inr (1, [.ref a_keys, .ref a_numbers, .ref a_spareKeys, .ref a_spareNumbers, .int count])), (a_keys, .inl (cI, 60, .inl keys)), (a_numbers, .inl (cI, 60, .inl numbers)), (a_spareKeys, .inl (cI, 60, .inl spareKeys)), (a_spareNumbers, .inl (cI, 60, .inl spareNumbers))] H → va_D A [(a_p0, .inr (1, [.ref a_keys, .ref a_numbers, .ref a_spareKeys, .ref a_spareNumbers, .int count])), (a_keys, .inl (cI, 60, .inl keys)), (a_numbers, .inl (cI, 60, .inl numbers)), (a_spareKeys, .inl (cI, 60, .inl spareKeys)), (a_spareNumbers, .inl (cI, 60, .inl spareNumbers))] → va_S A s.heap H locs → lv_has ls 13 [(0, .ref a_p0), (1, .int x1), (2, .int x2), (3, .int x3), (4, .int x4), (5, .int x5), (6, .int x6), (7, .int x7), (8, .int x8)] → W p l e (headSpec (Cond.code y_Su_merge prog_3_method_11_code 13 (some .boolean) :: T0) rm_Su_merge).room s m ([.ref a_p0, .int p1, .int p2, .int p3, .int p4] : List Value).toArray below meth c H locs 0 0 Q (F0 m 35 ls []) := by
    intro n
    induction n with
    | zero =>
      intro x1 x2 x3 x4 x5 x6 x7 x8 count keys numbers spareKeys spareNumbers H locs ls hf hP hD hS hl
      exact no_fuel hf
    | succ n ih =>
      intro x1 x2 x3 x4 x5 x6 x7 x8 count keys numbers spareKeys spareNumbers H locs ls hf hP hD hS hl
      rw [b_Su_merge_35] at hf
      refine lv_iload hx hb d_Su_merge_35 (lv_at hl 8 rfl) ?_
      refine lv_bipush (v := 120) hx hb d_Su_merge_37 (by decide) ?_
      refine lv_icmp_ge (tgt := 237) hx hb d_Su_merge_39 (by decide) (fun c_4 => ?_) (fun c_4 => ?_)
      · replace hf := if_t c_4 hf
        exact B_237 x5 count keys numbers spareKeys spareNumbers H locs ls hf hP hD hS (lv_sub hl [0, 5] rfl)
      · replace hf := if_f c_4 hf
        refine lv_iload hx hb d_Su_merge_42 (lv_at hl 6 rfl) ?_
        refine lv_aload_n hx hb d_Su_merge_44 rfl (lv_at hl 0 rfl) ?_
        refine va_get (D := (dC, dI)) (ci := 1) (v := .int count) (C := "FermionMaps$Sum") (T := F_Su) (N := 5) hx hb ht0 i_Su hown hK hP 0 rfl rfl 4 (by decide) (ht0 _ m_32) (fun _ h9 => h9) rfl d_Su_merge_45 ?_
        refine lv_icmp_lt (tgt := 63) hx hb d_Su_merge_48 (by decide) (fun c_10 => ?_) (fun c_10 => ?_)
        · replace hf := if_t c_10 hf
          exact B_63 (b_Su_merge_35 F n) ih x1 x2 x3 x4 x5 x6 x7 x8 count keys numbers spareKeys spareNumbers H locs ls hf hP hD hS (lv_sub hl [0, 1, 2, 3, 4, 5, 6, 7, 8] rfl)
        · replace hf := if_f c_10 hf
          refine lv_iload hx hb d_Su_merge_51 (lv_at hl 7 rfl) ?_
          refine lv_aload_n hx hb d_Su_merge_53 rfl (lv_at hl 0 rfl) ?_
          refine va_get (D := (dC, dI)) (ci := 1) (v := .int count) (C := "FermionMaps$Sum") (T := F_Su) (N := 5) hx hb ht0 i_Su hown hK hP 0 rfl rfl 4 (by decide) (ht0 _ m_32) (fun _ h9 => h9) rfl d_Su_merge_54 ?_
          refine lv_icmp_lt (tgt := 63) hx hb d_Su_merge_57 (by decide) (fun c_32 => ?_) (fun c_32 => ?_)
          · replace hf := if_t c_32 hf
            exact B_63 (b_Su_merge_35 F n) ih x1 x2 x3 x4 x5 x6 x7 x8 count keys numbers spareKeys spareNumbers H locs ls hf hP hD hS (lv_sub hl [0, 1, 2, 3, 4, 5, 6, 7, 8] rfl)
          · replace hf := if_f c_32 hf
            refine lv_goto (tgt := 237) hx hb d_Su_merge_60 (by decide) ?_
            exact B_237 x5 count keys numbers spareKeys spareNumbers H locs ls hf hP hD hS (lv_sub hl [0, 5] rfl)
  have B_30 : ∀ (x1 : Int32) (x2 : Int32) (x3 : Int32) (x4 : Int32) (x5 : Int32) (x6 : Int32) (s0 : Int32) (count : Int32) (keys : Nat → Int32) (numbers : Nat → Int32) (spareKeys : Nat → Int32) (spareNumbers : Nat → Int32) (H : Heap) (locs : List Loc) (ls : Array Slot), b_Su_merge_30 F x1 x2 x3 x4 x5 x6 s0 count keys numbers spareKeys spareNumbers = some u → va_P (dC, dI) cls [(a_p0, .inr (1, [.ref a_keys, .ref a_numbers, .ref a_spareKeys, .ref a_spareNumbers, .int count])), (a_keys, .inl (cI, 60, .inl keys)), (a_numbers, .inl (cI, 60, .inl numbers)), (a_spareKeys, .inl (cI, 60, .inl spareKeys)), (a_spareNumbers, .inl (cI, 60, .inl spareNumbers))] H → va_D A [(a_p0, .inr (1, [.ref a_keys, .ref a_numbers, .ref a_spareKeys, .ref a_spareNumbers, .int count])), (a_keys, .inl (cI, 60, .inl keys)), (a_numbers, .inl (cI, 60, .inl numbers)), (a_spareKeys, .inl (cI, 60, .inl spareKeys)), (a_spareNumbers, .inl (cI, 60, .inl spareNumbers))] → va_S A s.heap H locs → lv_has ls 13 [(0, .ref a_p0), (1, .int x1), (2, .int x2), (3, .int x3), (4, .int x4), (5, .int x5), (6, .int x6)] → W p l e (headSpec (Cond.code y_Su_merge prog_3_method_11_code 13 (some .boolean) :: T0) rm_Su_merge).room s m ([.ref a_p0, .int p1, .int p2, .int p3, .int p4] : List Value).toArray below meth c H locs 0 0 Q (F0 m 30 ls [.int s0]) := by
    intro x1 x2 x3 x4 x5 x6 s0 count keys numbers spareKeys spareNumbers H locs ls hf hP hD hS hl
    rw [b_Su_merge_30] at hf
    refine lv_istore (lv' := [(7, .int s0), (0, .ref a_p0), (1, .int x1), (2, .int x2), (3, .int x3), (4, .int x4), (5, .int x5), (6, .int x6)]) hx hb d_Su_merge_30 hl (by decide) rfl (fun ls hl => ?_)
    refine lv_iconst (v := 0) hx hb d_Su_merge_32 (by decide) ?_
    refine lv_istore (lv' := [(8, .int 0), (7, .int s0), (0, .ref a_p0), (1, .int x1), (2, .int x2), (3, .int x3), (4, .int x4), (5, .int x5), (6, .int x6)]) hx hb d_Su_merge_33 hl (by decide) rfl (fun ls hl => ?_)
    exact B_35 F x1 x2 x3 x4 x5 x6 s0 0 count keys numbers spareKeys spareNumbers H locs ls hf hP hD hS (lv_sub hl [2, 3, 4, 5, 6, 7, 8, 1, 0] rfl)
  rw [f_Su_merge] at hf
  refine lv_iconst (v := 0) hx hb d_Su_merge_0 (by decide) ?_
  refine lv_istore (lv' := [(5, .int 0), (0, .ref a_p0), (1, .int p1), (2, .int p2), (3, .int p3), (4, .int p4)]) hx hb d_Su_merge_1 hl (by decide) rfl (fun ls hl => ?_)
  refine lv_aload_n hx hb d_Su_merge_3 rfl (lv_at hl 1 rfl) ?_
  refine lv_iconst (v := 0) hx hb d_Su_merge_4 (by decide) ?_
  refine lv_iload_n hx hb d_Su_merge_5 rfl (lv_at hl 2 rfl) ?_
  refine lv_iconst (v := 0) hx hb d_Su_merge_6 (by decide) ?_
  obtain ⟨u_1, h_u_1, hf⟩ := bd hf
  refine rd_i (rdV_run (As := [.int 0, .int p1, .int 0]) (rest := []) ⟨hx, hb, hml, hown, ht0⟩ (c_Su_seek l dC dI cI cJ a_p0 a_keys a_numbers a_spareKeys a_spareNumbers count keys 0 p1 0 F u_1 h_u_1) (cwV 3 ht0 (gV m_187 m_188 m_189 m_2 m_190) rfl rfl rfl (by decide +kernel) ⟨Nat.le_of_ble_eq_true rfl, Nat.le_of_ble_eq_true rfl⟩) hK hNW hP [0, 1] rfl (ci := 1) (q0 := 0) rfl rfl rfl hl.1 rfl (Nat.le_of_ble_eq_true rfl) d_Su_merge_7 ⟨Nat.zero_le _, Nat.zero_le _⟩) ?_
  refine lv_istore (lv' := [(6, .int u_1), (5, .int 0), (0, .ref a_p0), (1, .int p1), (2, .int p2), (3, .int p3), (4, .int p4)]) hx hb d_Su_merge_10 hl (by decide) rfl (fun ls hl => ?_)
  refine lv_iload_n hx hb d_Su_merge_12 rfl (lv_at hl 5 rfl) ?_
  refine lv_if_ne (tgt := 23) hx hb d_Su_merge_13 (by decide) (fun c_2 => ?_) (fun c_2 => ?_)
  · replace hf := if_f c_2 hf
    refine lv_aload_n hx hb d_Su_merge_23 rfl (lv_at hl 2 rfl) ?_
    refine lv_iconst (v := 0) hx hb d_Su_merge_24 (by decide) ?_
    refine lv_iload_n hx hb d_Su_merge_25 rfl (lv_at hl 5 rfl) ?_
    refine lv_iload_n hx hb d_Su_merge_26 rfl (lv_at hl 5 rfl) ?_
    obtain ⟨u_3, h_u_3, hf⟩ := bd hf
    refine rd_i (rdV_run (As := [.int 0, .int p3, .int p3]) (rest := []) ⟨hx, hb, hml, hown, ht0⟩ (c_Su_seek l dC dI cI cJ a_p0 a_keys a_numbers a_spareKeys a_spareNumbers count keys 0 p3 p3 F u_3 h_u_3) (cwV 3 ht0 (gV m_187 m_188 m_189 m_2 m_190) rfl rfl rfl (by decide +kernel) ⟨Nat.le_of_ble_eq_true rfl, Nat.le_of_ble_eq_true rfl⟩) hK hNW hP [0, 1] rfl (ci := 1) (q0 := 0) rfl rfl rfl hl.1 rfl (Nat.le_of_ble_eq_true rfl) d_Su_merge_27 ⟨Nat.zero_le _, Nat.zero_le _⟩) ?_
    exact B_30 p1 p2 p3 p4 0 u_1 u_3 count keys numbers spareKeys spareNumbers s.heap [] ls hf hP hD hS (lv_sub hl [2, 3, 4, 5, 6, 1, 0] rfl)
  · replace hf := if_t c_2 hf
    refine lv_aload_n hx hb d_Su_merge_16 rfl (lv_at hl 2 rfl) ?_
    refine va_get (D := (dC, dI)) (ci := 1) (v := .int count) (C := "FermionMaps$Sum") (T := F_Su) (N := 5) hx hb ht0 i_Su hown hK hP 0 rfl rfl 4 (by decide) (ht0 _ m_32) (fun _ h9 => h9) rfl d_Su_merge_17 ?_
    refine lv_goto (tgt := 30) hx hb d_Su_merge_20 (by decide) ?_
    exact B_30 p1 p2 p3 p4 0 u_1 count count keys numbers spareKeys spareNumbers s.heap [] ls hf hP hD hS (lv_sub hl [2, 3, 4, 5, 6, 1, 0] rfl)

/-! FermionMaps$Sum.climb(IZZ)Z -/
def b_Su_climb_54 (F : Nat) (x2 : Int32) (x3 : Int32) (x4 : Int32) (x5 : Int32) (x6 : Int32) (x7 : Int32) (count : Int32) (keys : Nat → Int32) (numbers : Nat → Int32) (spareKeys : Nat → Int32) (spareNumbers : Nat → Int32) : Option (Int32 × Int32 × (Nat → Int32) × (Nat → Int32) × (Nat → Int32) × (Nat → Int32)) :=
  if x2 = 0 then
    if x3 = 0 then
      (f_Su_merge F count keys numbers spareKeys spareNumbers x7 x5 0 0).bind fun u_8 =>
      ckB u_8.1 <|
      some (u_8.1, u_8.2.1, u_8.2.2.1, u_8.2.2.2.1, u_8.2.2.2.2.1, u_8.2.2.2.2.2)
    else
      nm ((65280 + x4) : Int32) fun x8_14 =>
      (f_Su_merge F count keys numbers spareKeys spareNumbers x7 x8_14 x6 (256 * x4)).bind fun u_15 =>
      ckB u_15.1 <|
      some (u_15.1, u_15.2.1, u_15.2.2.1, u_15.2.2.2.1, u_15.2.2.2.2.1, u_15.2.2.2.2.2)
  else
    (f_Su_merge F count keys numbers spareKeys spareNumbers x6 ((256 * x5) + 255) x7 x5).bind fun u_21 =>
    ckB u_21.1 <|
    some (u_21.1, u_21.2.1, u_21.2.2.1, u_21.2.2.2.1, u_21.2.2.2.2.1, u_21.2.2.2.2.2)
def f_Su_climb (F : Nat) (count : Int32) (keys : Nat → Int32) (numbers : Nat → Int32) (spareKeys : Nat → Int32) (spareNumbers : Nat → Int32) (p1 : Int32) (p2 : Int32) (p3 : Int32) : Option (Int32 × Int32 × (Nat → Int32) × (Nat → Int32) × (Nat → Int32) × (Nat → Int32)) :=
  nm ((((1 : Int32) <<< (p1 &&& 31)) - 1) : Int32) fun x4_1 =>
  nm (((255 - x4_1) - ((1 : Int32) <<< (p1 &&& 31))) : Int32) fun x5_2 =>
  nm (((256 : Int32) <<< (p1 &&& 31)) : Int32) fun x6_3 =>
  nm (((1 : Int32) <<< (p1 &&& 31)) : Int32) fun x7_4 =>
  if p2 = 0 then
    b_Su_climb_54 F p2 p3 x4_1 x5_2 x6_3 x7_4 count keys numbers spareKeys spareNumbers
  else
    if p3 = 0 then
      b_Su_climb_54 F p2 p3 x4_1 x5_2 x6_3 x7_4 count keys numbers spareKeys spareNumbers
    else
      (f_Su_merge F count keys numbers spareKeys spareNumbers x6_3 (256 * x4_1) 0 0).bind fun u_28 =>
      ckB u_28.1 <|
      some (u_28.1, u_28.2.1, u_28.2.2.1, u_28.2.2.2.1, u_28.2.2.2.2.1, u_28.2.2.2.2.2)
abbrev rm_Su_climb : Room := { frames := 4, cells := 0, slots := 0, locals := 94 }
set_option maxHeartbeats 4000000 in
set_option maxRecDepth 100000 in
theorem c_Su_climb (l : Launch) (dC : Nat → ClassId) (dI : Nat → Nat → Nat) (cI cJ : ClassId) (a_p0 a_keys a_numbers a_spareKeys a_spareNumbers : Nat) (sz : Nat) (count : Int32) (keys : Nat → Int32) (numbers : Nat → Int32) (spareKeys : Nat → Int32) (spareNumbers : Nat → Int32) (p1 : Int32) (p2 : Int32) (p3 : Int32) (F : Nat) (u : Int32 × Int32 × (Nat → Int32) × (Nat → Int32) × (Nat → Int32) × (Nat → Int32)) (hf : f_Su_climb F count keys numbers spareKeys spareNumbers p1 p2 p3 = some u) : Met l y_Su_climb (Cond.code y_Su_climb prog_3_method_10_code 9 (some .boolean) :: T0) rm_Su_climb (va_Pc [.ref a_p0, .int p1, .int p2, .int p3] (Ww (dC, dI) [(a_p0, .inr (1, [.ref a_keys, .ref a_numbers, .ref a_spareKeys, .ref a_spareNumbers, .int count])), (a_keys, .inl (cI, 60, .inl keys)), (a_numbers, .inl (cI, 60, .inl numbers)), (a_spareKeys, .inl (cI, 60, .inl spareKeys)), (a_spareNumbers, .inl (cI, 60, .inl spareNumbers))] [(cI, .int), (cJ, .long)] sz)) (va_Qi (fun r (_ : Unit) => r = u.1) (Bw (dC, dI) [(cI, .int), (cJ, .long)] (va_A [(a_p0, .inr (1, [.ref a_keys, .ref a_numbers, .ref a_spareKeys, .ref a_spareNumbers, .int count])), (a_keys, .inl (cI, 60, .inl keys)), (a_numbers, .inl (cI, 60, .inl numbers)), (a_spareKeys, .inl (cI, 60, .inl spareKeys)), (a_spareNumbers, .inl (cI, 60, .inl spareNumbers))] sz) (fun w1 => ∃ q_keys q_numbers q_spareKeys q_spareNumbers : Nat, w1 = [(a_p0, .inr (1, [.ref q_keys, .ref q_numbers, .ref q_spareKeys, .ref q_spareNumbers, .int u.2.1])), (q_keys, .inl (cI, 60, .inl u.2.2.1)), (q_numbers, .inl (cI, 60, .inl u.2.2.2.1)), (q_spareKeys, .inl (cI, 60, .inl u.2.2.2.2.1)), (q_spareNumbers, .inl (cI, 60, .inl u.2.2.2.2.2))])) (va_A [(a_p0, .inr (1, [.ref a_keys, .ref a_numbers, .ref a_spareKeys, .ref a_spareNumbers, .int count])), (a_keys, .inl (cI, 60, .inl keys)), (a_numbers, .inl (cI, 60, .inl numbers)), (a_spareKeys, .inl (cI, 60, .inl spareKeys)), (a_spareNumbers, .inl (cI, 60, .inl spareNumbers))] sz)) 0 0 (va_A [(a_p0, .inr (1, [.ref a_keys, .ref a_numbers, .ref a_spareKeys, .ref a_spareNumbers, .int count])), (a_keys, .inl (cI, 60, .inl keys)), (a_numbers, .inl (cI, 60, .inl numbers)), (a_spareKeys, .inl (cI, 60, .inl spareKeys)), (a_spareNumbers, .inl (cI, 60, .inl spareNumbers))] sz) := by
  refine Met.ofW (cc := prog_3_method_10_code) (maxL := 9) (ret := (some .boolean)) (by decide) rfl ?_
  intro p e s m args below meth c s₁ B hml hv
  obtain ⟨rfl, hsz, hP, hK, hD0, hNW⟩ := hv
  have hx := B.exec
  have hb := B.bytes
  have hr := B.returns
  have hts := atoms_spec (ws := Cond.code y_Su_climb prog_3_method_10_code 9 (some .boolean) :: T0) B.pre
  have ht0 : ∀ w ∈ T0, w.before ([.ref a_p0, .int p1, .int p2, .int p3] : List Value).toArray s = true := fun w h => hts w (List.mem_cons_of_mem _ h)
  have hown : s.vm.findClass "FermionMaps$Sum" = some m.cls := findClass_of_methodNamed B.named
  have hlocks := B.notSynchronized
  subst hsz
  have hD := hD0.self (sz := s.heap.size)
  generalize hAe : va_A [(a_p0, .inr (1, [.ref a_keys, .ref a_numbers, .ref a_spareKeys, .ref a_spareNumbers, .int count])), (a_keys, .inl (cI, 60, .inl keys)), (a_numbers, .inl (cI, 60, .inl numbers)), (a_spareKeys, .inl (cI, 60, .inl spareKeys)), (a_spareNumbers, .inl (cI, 60, .inl spareNumbers))] s.heap.size = A at hD ⊢
  have hA : ∀ q : Nat, s.heap.size ≤ q → A q := fun q h => by rw [← hAe]; exact Or.inr h
  have hS : va_S A s.heap s.heap [] := va_S.rf
  have hl := lv_entry ([.ref a_p0, .int p1, .int p2, .int p3]) (n := 9) (Nat.le_of_ble_eq_true rfl)
  rw [lg_entry_eq]
  generalize (lg_sl ([.ref a_p0, .int p1, .int p2, .int p3]) ++ List.replicate (9 - (lg_sl ([.ref a_p0, .int p1, .int p2, .int p3])).length) Slot.unset).toArray = ls at hl ⊢
  have hl : lv_has ls 9 [(0, .ref a_p0), (1, .int p1), (2, .int p2), (3, .int p3)] := hl
  refine W.nameQ (fun Q hQ => ?_)
  have B_54 : ∀ (x2 : Int32) (x3 : Int32) (x4 : Int32) (x5 : Int32) (x6 : Int32) (x7 : Int32) (count : Int32) (keys : Nat → Int32) (numbers : Nat → Int32) (spareKeys : Nat → Int32) (spareNumbers : Nat → Int32) (H : Heap) (locs : List Loc) (ls : Array Slot), b_Su_climb_54 F x2 x3 x4 x5 x6 x7 count keys numbers spareKeys spareNumbers = some u → va_P (dC, dI) cls [(a_p0, .inr (1, [.ref a_keys, .ref a_numbers, .ref a_spareKeys, .ref a_spareNumbers, .int count])), (a_keys, .inl (cI, 60, .inl keys)), (a_numbers, .inl (cI, 60, .inl numbers)), (a_spareKeys, .inl (cI, 60, .inl spareKeys)), (a_spareNumbers, .inl (cI, 60, .inl spareNumbers))] H → va_D A [(a_p0, .inr (1, [.ref a_keys, .ref a_numbers, .ref a_spareKeys, .ref a_spareNumbers, .int count])), (a_keys, .inl (cI, 60, .inl keys)), (a_numbers, .inl (cI, 60, .inl numbers)), (a_spareKeys, .inl (cI, 60, .inl spareKeys)), (a_spareNumbers, .inl (cI, 60, .inl spareNumbers))] → va_S A s.heap H locs → lv_has ls 9 [(0, .ref a_p0), (2, .int x2), (3, .int x3), (4, .int x4), (5, .int x5), (6, .int x6), (7, .int x7)] → W p l e (headSpec (Cond.code y_Su_climb prog_3_method_10_code 9 (some .boolean) :: T0) rm_Su_climb).room s m ([.ref a_p0, .int p1, .int p2, .int p3] : List Value).toArray below meth c H locs 0 0 Q (F0 m 54 ls []) := by
    intro x2 x3 x4 x5 x6 x7 count keys numbers spareKeys spareNumbers H locs ls hf hP hD hS hl
    rw [b_Su_climb_54] at hf
    refine lv_iload_n hx hb d_Su_climb_54 rfl (lv_at hl 1 rfl) ?_
    refine lv_if_eq (tgt := 79) hx hb d_Su_climb_55 (by decide) (fun c_6 => ?_) (fun c_6 => ?_)
    · replace hf := if_t c_6 hf
      refine lv_iload_n hx hb d_Su_climb_79 rfl (lv_at hl 2 rfl) ?_
      refine lv_if_eq (tgt := 107) hx hb d_Su_climb_80 (by decide) (fun c_7 => ?_) (fun c_7 => ?_)
      · replace hf := if_t c_7 hf
        refine lv_aload_n hx hb d_Su_climb_107 rfl (lv_at hl 0 rfl) ?_
        refine lv_iload hx hb d_Su_climb_108 (lv_at hl 6 rfl) ?_
        refine lv_iload hx hb d_Su_climb_110 (lv_at hl 4 rfl) ?_
        refine lv_iconst (v := 0) hx hb d_Su_climb_112 (by decide) ?_
        refine lv_iconst (v := 0) hx hb d_Su_climb_113 (by decide) ?_
        obtain ⟨u_8, h_u_8, hf⟩ := bd hf
        refine wr_i (wr := []) (wrV_run (As := [.int x7, .int x5, .int 0, .int 0]) (rest := []) ⟨hx, hb, hml, hown, ht0⟩ (c_Su_merge l dC dI cI cJ a_p0 a_keys a_numbers a_spareKeys a_spareNumbers H.size count keys numbers spareKeys spareNumbers x7 x5 0 0 F u_8 h_u_8) (cwV 4 ht0 (gV m_183 m_184 m_185 m_2 m_186) rfl rfl rfl (by decide +kernel) ⟨Nat.le_of_ble_eq_true rfl, Nat.le_of_ble_eq_true rfl⟩) hK hNW hP hD [0, 1, 2, 3, 4] rfl rfl (by decide) (ci := 1) (q0 := 0) rfl rfl rfl hl.1 rfl (Nat.le_of_ble_eq_true rfl) d_Su_climb_114 ⟨Nat.zero_le _, Nat.zero_le _⟩) hP hD hS hA [0, 1, 2, 3, 4] [] rfl rfl (by decide) (by decide) (fun w1 H locs hw hP hD hS => ?_)
        obtain ⟨q_9, q_10, q_11, q_12, rfl⟩ := hw
        have hP : va_P (dC, dI) cls [(a_p0, .inr (1, [.ref q_9, .ref q_10, .ref q_11, .ref q_12, .int u_8.2.1])), (q_9, .inl (cI, 60, .inl u_8.2.2.1)), (q_10, .inl (cI, 60, .inl u_8.2.2.2.1)), (q_11, .inl (cI, 60, .inl u_8.2.2.2.2.1)), (q_12, .inl (cI, 60, .inl u_8.2.2.2.2.2))] H := hP.sub [0, 1, 2, 3, 4] rfl
        have hD : va_D A [(a_p0, .inr (1, [.ref q_9, .ref q_10, .ref q_11, .ref q_12, .int u_8.2.1])), (q_9, .inl (cI, 60, .inl u_8.2.2.1)), (q_10, .inl (cI, 60, .inl u_8.2.2.2.1)), (q_11, .inl (cI, 60, .inl u_8.2.2.2.2.1)), (q_12, .inl (cI, 60, .inl u_8.2.2.2.2.2))] := hD.sub [0, 1, 2, 3, 4] (by decide) rfl
        obtain ⟨hz_13, hf⟩ := ckB_ok hf
        have hu := Option.some.inj hf
        subst hu
        exact rw_z hQ rfl hz_13 ⟨q_9, q_10, q_11, q_12, rfl⟩ hP hD hK hS hx hb hr hlocks d_Su_climb_117
      · replace hf := if_f c_7 hf
        refine lv_ldc hx hb hown (ht0 _ m_212) d_Su_climb_83 ?_
        refine lv_iload hx hb d_Su_climb_85 (lv_at hl 3 rfl) ?_
        refine lv_iadd hx hb d_Su_climb_87 ?_
        refine lv_topi (fun x8_14 e_x8_14 => ?_)
        replace hf := nm_eq e_x8_14 hf
        refine lv_istore (lv' := [(8, .int x8_14), (0, .ref a_p0), (2, .int x2), (3, .int x3), (4, .int x4), (5, .int x5), (6, .int x6), (7, .int x7)]) hx hb d_Su_climb_88 hl (by decide) rfl (fun ls hl => ?_)
        refine lv_aload_n hx hb d_Su_climb_90 rfl (lv_at hl 1 rfl) ?_
        refine lv_iload hx hb d_Su_climb_91 (lv_at hl 7 rfl) ?_
        refine lv_iload hx hb d_Su_climb_93 (lv_at hl 0 rfl) ?_
        refine lv_iload hx hb d_Su_climb_95 (lv_at hl 6 rfl) ?_
        refine lv_sipush (v := 256) hx hb d_Su_climb_97 (by decide) ?_
        refine lv_iload hx hb d_Su_climb_100 (lv_at hl 4 rfl) ?_
        refine lv_imul hx hb d_Su_climb_102 ?_
        obtain ⟨u_15, h_u_15, hf⟩ := bd hf
        refine wr_i (wr := []) (wrV_run (As := [.int x7, .int x8_14, .int x6, .int (256 * x4)]) (rest := []) ⟨hx, hb, hml, hown, ht0⟩ (c_Su_merge l dC dI cI cJ a_p0 a_keys a_numbers a_spareKeys a_spareNumbers H.size count keys numbers spareKeys spareNumbers x7 x8_14 x6 (256 * x4) F u_15 h_u_15) (cwV 4 ht0 (gV m_183 m_184 m_185 m_2 m_186) rfl rfl rfl (by decide +kernel) ⟨Nat.le_of_ble_eq_true rfl, Nat.le_of_ble_eq_true rfl⟩) hK hNW hP hD [0, 1, 2, 3, 4] rfl rfl (by decide) (ci := 1) (q0 := 0) rfl rfl rfl hl.1 rfl (Nat.le_of_ble_eq_true rfl) d_Su_climb_103 ⟨Nat.zero_le _, Nat.zero_le _⟩) hP hD hS hA [0, 1, 2, 3, 4] [] rfl rfl (by decide) (by decide) (fun w1 H locs hw hP hD hS => ?_)
        obtain ⟨q_16, q_17, q_18, q_19, rfl⟩ := hw
        have hP : va_P (dC, dI) cls [(a_p0, .inr (1, [.ref q_16, .ref q_17, .ref q_18, .ref q_19, .int u_15.2.1])), (q_16, .inl (cI, 60, .inl u_15.2.2.1)), (q_17, .inl (cI, 60, .inl u_15.2.2.2.1)), (q_18, .inl (cI, 60, .inl u_15.2.2.2.2.1)), (q_19, .inl (cI, 60, .inl u_15.2.2.2.2.2))] H := hP.sub [0, 1, 2, 3, 4] rfl
        have hD : va_D A [(a_p0, .inr (1, [.ref q_16, .ref q_17, .ref q_18, .ref q_19, .int u_15.2.1])), (q_16, .inl (cI, 60, .inl u_15.2.2.1)), (q_17, .inl (cI, 60, .inl u_15.2.2.2.1)), (q_18, .inl (cI, 60, .inl u_15.2.2.2.2.1)), (q_19, .inl (cI, 60, .inl u_15.2.2.2.2.2))] := hD.sub [0, 1, 2, 3, 4] (by decide) rfl
        obtain ⟨hz_20, hf⟩ := ckB_ok hf
        have hu := Option.some.inj hf
        subst hu
        exact rw_z hQ rfl hz_20 ⟨q_16, q_17, q_18, q_19, rfl⟩ hP hD hK hS hx hb hr hlocks d_Su_climb_106
    · replace hf := if_f c_6 hf
      refine lv_aload_n hx hb d_Su_climb_58 rfl (lv_at hl 0 rfl) ?_
      refine lv_iload hx hb d_Su_climb_59 (lv_at hl 5 rfl) ?_
      refine lv_sipush (v := 256) hx hb d_Su_climb_61 (by decide) ?_
      refine lv_iload hx hb d_Su_climb_64 (lv_at hl 4 rfl) ?_
      refine lv_imul hx hb d_Su_climb_66 ?_
      refine lv_sipush (v := 255) hx hb d_Su_climb_67 (by decide) ?_
      refine lv_iadd hx hb d_Su_climb_70 ?_
      refine lv_iload hx hb d_Su_climb_71 (lv_at hl 6 rfl) ?_
      refine lv_iload hx hb d_Su_climb_73 (lv_at hl 4 rfl) ?_
      obtain ⟨u_21, h_u_21, hf⟩ := bd hf
      refine wr_i (wr := []) (wrV_run (As := [.int x6, .int ((256 * x5) + 255), .int x7, .int x5]) (rest := []) ⟨hx, hb, hml, hown, ht0⟩ (c_Su_merge l dC dI cI cJ a_p0 a_keys a_numbers a_spareKeys a_spareNumbers H.size count keys numbers spareKeys spareNumbers x6 ((256 * x5) + 255) x7 x5 F u_21 h_u_21) (cwV 4 ht0 (gV m_183 m_184 m_185 m_2 m_186) rfl rfl rfl (by decide +kernel) ⟨Nat.le_of_ble_eq_true rfl, Nat.le_of_ble_eq_true rfl⟩) hK hNW hP hD [0, 1, 2, 3, 4] rfl rfl (by decide) (ci := 1) (q0 := 0) rfl rfl rfl hl.1 rfl (Nat.le_of_ble_eq_true rfl) d_Su_climb_75 ⟨Nat.zero_le _, Nat.zero_le _⟩) hP hD hS hA [0, 1, 2, 3, 4] [] rfl rfl (by decide) (by decide) (fun w1 H locs hw hP hD hS => ?_)
      obtain ⟨q_22, q_23, q_24, q_25, rfl⟩ := hw
      have hP : va_P (dC, dI) cls [(a_p0, .inr (1, [.ref q_22, .ref q_23, .ref q_24, .ref q_25, .int u_21.2.1])), (q_22, .inl (cI, 60, .inl u_21.2.2.1)), (q_23, .inl (cI, 60, .inl u_21.2.2.2.1)), (q_24, .inl (cI, 60, .inl u_21.2.2.2.2.1)), (q_25, .inl (cI, 60, .inl u_21.2.2.2.2.2))] H := hP.sub [0, 1, 2, 3, 4] rfl
      have hD : va_D A [(a_p0, .inr (1, [.ref q_22, .ref q_23, .ref q_24, .ref q_25, .int u_21.2.1])), (q_22, .inl (cI, 60, .inl u_21.2.2.1)), (q_23, .inl (cI, 60, .inl u_21.2.2.2.1)), (q_24, .inl (cI, 60, .inl u_21.2.2.2.2.1)), (q_25, .inl (cI, 60, .inl u_21.2.2.2.2.2))] := hD.sub [0, 1, 2, 3, 4] (by decide) rfl
      obtain ⟨hz_26, hf⟩ := ckB_ok hf
      have hu := Option.some.inj hf
      subst hu
      exact rw_z hQ rfl hz_26 ⟨q_22, q_23, q_24, q_25, rfl⟩ hP hD hK hS hx hb hr hlocks d_Su_climb_78
  rw [f_Su_climb] at hf
  refine lv_iconst (v := 1) hx hb d_Su_climb_0 (by decide) ?_
  refine lv_iload_n hx hb d_Su_climb_1 rfl (lv_at hl 1 rfl) ?_
  refine lv_ishl hx hb d_Su_climb_2 ?_
  refine lv_iconst (v := 1) hx hb d_Su_climb_3 (by decide) ?_
  refine lv_isub hx hb d_Su_climb_4 ?_
  refine lv_topi (fun x4_1 e_x4_1 => ?_)
  replace hf := nm_eq e_x4_1 hf
  refine lv_istore (lv' := [(4, .int x4_1), (0, .ref a_p0), (1, .int p1), (2, .int p2), (3, .int p3)]) hx hb d_Su_climb_5 hl (by decide) rfl (fun ls hl => ?_)
  refine lv_sipush (v := 255) hx hb d_Su_climb_7 (by decide) ?_
  refine lv_iload hx hb d_Su_climb_10 (lv_at hl 0 rfl) ?_
  refine lv_isub hx hb d_Su_climb_12 ?_
  refine lv_iconst (v := 1) hx hb d_Su_climb_13 (by decide) ?_
  refine lv_iload_n hx hb d_Su_climb_14 rfl (lv_at hl 2 rfl) ?_
  refine lv_ishl hx hb d_Su_climb_15 ?_
  refine lv_isub hx hb d_Su_climb_16 ?_
  refine lv_topi (fun x5_2 e_x5_2 => ?_)
  replace hf := nm_eq e_x5_2 hf
  refine lv_istore (lv' := [(5, .int x5_2), (4, .int x4_1), (0, .ref a_p0), (1, .int p1), (2, .int p2), (3, .int p3)]) hx hb d_Su_climb_17 hl (by decide) rfl (fun ls hl => ?_)
  refine lv_sipush (v := 256) hx hb d_Su_climb_19 (by decide) ?_
  refine lv_iload_n hx hb d_Su_climb_22 rfl (lv_at hl 3 rfl) ?_
  refine lv_ishl hx hb d_Su_climb_23 ?_
  refine lv_topi (fun x6_3 e_x6_3 => ?_)
  replace hf := nm_eq e_x6_3 hf
  refine lv_istore (lv' := [(6, .int x6_3), (5, .int x5_2), (4, .int x4_1), (0, .ref a_p0), (1, .int p1), (2, .int p2), (3, .int p3)]) hx hb d_Su_climb_24 hl (by decide) rfl (fun ls hl => ?_)
  refine lv_iconst (v := 1) hx hb d_Su_climb_26 (by decide) ?_
  refine lv_iload_n hx hb d_Su_climb_27 rfl (lv_at hl 4 rfl) ?_
  refine lv_ishl hx hb d_Su_climb_28 ?_
  refine lv_topi (fun x7_4 e_x7_4 => ?_)
  replace hf := nm_eq e_x7_4 hf
  refine lv_istore (lv' := [(7, .int x7_4), (6, .int x6_3), (5, .int x5_2), (4, .int x4_1), (0, .ref a_p0), (1, .int p1), (2, .int p2), (3, .int p3)]) hx hb d_Su_climb_29 hl (by decide) rfl (fun ls hl => ?_)
  refine lv_iload_n hx hb d_Su_climb_31 rfl (lv_at hl 6 rfl) ?_
  refine lv_if_eq (tgt := 54) hx hb d_Su_climb_32 (by decide) (fun c_5 => ?_) (fun c_5 => ?_)
  · replace hf := if_t c_5 hf
    exact B_54 p2 p3 x4_1 x5_2 x6_3 x7_4 count keys numbers spareKeys spareNumbers s.heap [] ls hf hP hD hS (lv_sub hl [4, 6, 7, 3, 2, 1, 0] rfl)
  · replace hf := if_f c_5 hf
    refine lv_iload_n hx hb d_Su_climb_35 rfl (lv_at hl 7 rfl) ?_
    refine lv_if_eq (tgt := 54) hx hb d_Su_climb_36 (by decide) (fun c_27 => ?_) (fun c_27 => ?_)
    · replace hf := if_t c_27 hf
      exact B_54 p2 p3 x4_1 x5_2 x6_3 x7_4 count keys numbers spareKeys spareNumbers s.heap [] ls hf hP hD hS (lv_sub hl [4, 6, 7, 3, 2, 1, 0] rfl)
    · replace hf := if_f c_27 hf
      refine lv_aload_n hx hb d_Su_climb_39 rfl (lv_at hl 4 rfl) ?_
      refine lv_iload hx hb d_Su_climb_40 (lv_at hl 1 rfl) ?_
      refine lv_sipush (v := 256) hx hb d_Su_climb_42 (by decide) ?_
      refine lv_iload hx hb d_Su_climb_45 (lv_at hl 3 rfl) ?_
      refine lv_imul hx hb d_Su_climb_47 ?_
      refine lv_iconst (v := 0) hx hb d_Su_climb_48 (by decide) ?_
      refine lv_iconst (v := 0) hx hb d_Su_climb_49 (by decide) ?_
      obtain ⟨u_28, h_u_28, hf⟩ := bd hf
      refine wr_i (wr := []) (wrV_run (As := [.int x6_3, .int (256 * x4_1), .int 0, .int 0]) (rest := []) ⟨hx, hb, hml, hown, ht0⟩ (c_Su_merge l dC dI cI cJ a_p0 a_keys a_numbers a_spareKeys a_spareNumbers s.heap.size count keys numbers spareKeys spareNumbers x6_3 (256 * x4_1) 0 0 F u_28 h_u_28) (cwV 4 ht0 (gV m_183 m_184 m_185 m_2 m_186) rfl rfl rfl (by decide +kernel) ⟨Nat.le_of_ble_eq_true rfl, Nat.le_of_ble_eq_true rfl⟩) hK hNW hP hD [0, 1, 2, 3, 4] rfl rfl (by decide) (ci := 1) (q0 := 0) rfl rfl rfl hl.1 rfl (Nat.le_of_ble_eq_true rfl) d_Su_climb_50 ⟨Nat.zero_le _, Nat.zero_le _⟩) hP hD hS hA [0, 1, 2, 3, 4] [] rfl rfl (by decide) (by decide) (fun w1 H locs hw hP hD hS => ?_)
      obtain ⟨q_29, q_30, q_31, q_32, rfl⟩ := hw
      have hP : va_P (dC, dI) cls [(a_p0, .inr (1, [.ref q_29, .ref q_30, .ref q_31, .ref q_32, .int u_28.2.1])), (q_29, .inl (cI, 60, .inl u_28.2.2.1)), (q_30, .inl (cI, 60, .inl u_28.2.2.2.1)), (q_31, .inl (cI, 60, .inl u_28.2.2.2.2.1)), (q_32, .inl (cI, 60, .inl u_28.2.2.2.2.2))] H := hP.sub [0, 1, 2, 3, 4] rfl
      have hD : va_D A [(a_p0, .inr (1, [.ref q_29, .ref q_30, .ref q_31, .ref q_32, .int u_28.2.1])), (q_29, .inl (cI, 60, .inl u_28.2.2.1)), (q_30, .inl (cI, 60, .inl u_28.2.2.2.1)), (q_31, .inl (cI, 60, .inl u_28.2.2.2.2.1)), (q_32, .inl (cI, 60, .inl u_28.2.2.2.2.2))] := hD.sub [0, 1, 2, 3, 4] (by decide) rfl
      obtain ⟨hz_33, hf⟩ := ckB_ok hf
      have hu := Option.some.inj hf
      subst hu
      exact rw_z hQ rfl hz_33 ⟨q_29, q_30, q_31, q_32, rfl⟩ hP hD hK hS hx hb hr hlocks d_Su_climb_53
