theorem d_Mo_fillMatrix_0 : decode prog_6_method_11_code 0 = .ok (.iconst 0, 1) := by decide +kernel
theorem d_Mo_fillMatrix_1 : decode prog_6_method_11_code 1 = .ok (.istore_n 1, 1) := by decide +kernel
theorem d_Mo_fillMatrix_2 : decode prog_6_method_11_code 2 = .ok (.iload_n 1, 1) := by decide +kernel
theorem d_Mo_fillMatrix_3 : decode prog_6_method_11_code 3 = .ok (.aload_n 0, 1) := by decide +kernel
theorem d_Mo_fillMatrix_4 : decode prog_6_method_11_code 4 = .ok (.invokevirtual 65, 3) := by decide +kernel
theorem d_Mo_fillMatrix_7 : decode prog_6_method_11_code 7 = .ok (.if_icmp .ge 38, 3) := by decide +kernel
theorem d_Mo_fillMatrix_10 : decode prog_6_method_11_code 10 = .ok (.iconst 0, 1) := by decide +kernel
theorem d_Mo_fillMatrix_11 : decode prog_6_method_11_code 11 = .ok (.istore_n 2, 1) := by decide +kernel
theorem d_Mo_fillMatrix_12 : decode prog_6_method_11_code 12 = .ok (.iload_n 2, 1) := by decide +kernel
theorem d_Mo_fillMatrix_13 : decode prog_6_method_11_code 13 = .ok (.aload_n 0, 1) := by decide +kernel
theorem d_Mo_fillMatrix_14 : decode prog_6_method_11_code 14 = .ok (.invokevirtual 65, 3) := by decide +kernel
theorem d_Mo_fillMatrix_17 : decode prog_6_method_11_code 17 = .ok (.if_icmp .ge 22, 3) := by decide +kernel
theorem d_Mo_fillMatrix_20 : decode prog_6_method_11_code 20 = .ok (.aload_n 0, 1) := by decide +kernel
theorem d_Mo_fillMatrix_21 : decode prog_6_method_11_code 21 = .ok (.getfield 30, 3) := by decide +kernel
theorem d_Mo_fillMatrix_24 : decode prog_6_method_11_code 24 = .ok (.sipush 256, 3) := by decide +kernel
theorem d_Mo_fillMatrix_27 : decode prog_6_method_11_code 27 = .ok (.iload_n 1, 1) := by decide +kernel
theorem d_Mo_fillMatrix_28 : decode prog_6_method_11_code 28 = .ok (.imul, 1) := by decide +kernel
theorem d_Mo_fillMatrix_29 : decode prog_6_method_11_code 29 = .ok (.iload_n 2, 1) := by decide +kernel
theorem d_Mo_fillMatrix_30 : decode prog_6_method_11_code 30 = .ok (.iadd, 1) := by decide +kernel
theorem d_Mo_fillMatrix_31 : decode prog_6_method_11_code 31 = .ok (.lconst 0, 1) := by decide +kernel
theorem d_Mo_fillMatrix_32 : decode prog_6_method_11_code 32 = .ok (.lastore, 1) := by decide +kernel
theorem d_Mo_fillMatrix_33 : decode prog_6_method_11_code 33 = .ok (.iinc 2 1, 3) := by decide +kernel
theorem d_Mo_fillMatrix_36 : decode prog_6_method_11_code 36 = .ok (.goto (-24), 3) := by decide +kernel
theorem d_Mo_fillMatrix_39 : decode prog_6_method_11_code 39 = .ok (.iinc 1 1, 3) := by decide +kernel
theorem d_Mo_fillMatrix_42 : decode prog_6_method_11_code 42 = .ok (.goto (-40), 3) := by decide +kernel
theorem d_Mo_fillMatrix_45 : decode prog_6_method_11_code 45 = .ok (.iconst 0, 1) := by decide +kernel
theorem d_Mo_fillMatrix_46 : decode prog_6_method_11_code 46 = .ok (.istore_n 1, 1) := by decide +kernel
theorem d_Mo_fillMatrix_47 : decode prog_6_method_11_code 47 = .ok (.iload_n 1, 1) := by decide +kernel
theorem d_Mo_fillMatrix_48 : decode prog_6_method_11_code 48 = .ok (.aload_n 0, 1) := by decide +kernel
theorem d_Mo_fillMatrix_49 : decode prog_6_method_11_code 49 = .ok (.getfield 69, 3) := by decide +kernel
theorem d_Mo_fillMatrix_52 : decode prog_6_method_11_code 52 = .ok (.if_icmp .ge 75, 3) := by decide +kernel
theorem d_Mo_fillMatrix_55 : decode prog_6_method_11_code 55 = .ok (.iconst 0, 1) := by decide +kernel
theorem d_Mo_fillMatrix_56 : decode prog_6_method_11_code 56 = .ok (.istore_n 2, 1) := by decide +kernel
theorem d_Mo_fillMatrix_57 : decode prog_6_method_11_code 57 = .ok (.iload_n 2, 1) := by decide +kernel
theorem d_Mo_fillMatrix_58 : decode prog_6_method_11_code 58 = .ok (.aload_n 0, 1) := by decide +kernel
theorem d_Mo_fillMatrix_59 : decode prog_6_method_11_code 59 = .ok (.invokevirtual 65, 3) := by decide +kernel
theorem d_Mo_fillMatrix_62 : decode prog_6_method_11_code 62 = .ok (.if_icmp .ge 59, 3) := by decide +kernel
theorem d_Mo_fillMatrix_65 : decode prog_6_method_11_code 65 = .ok (.aload_n 0, 1) := by decide +kernel
theorem d_Mo_fillMatrix_66 : decode prog_6_method_11_code 66 = .ok (.aload_n 0, 1) := by decide +kernel
theorem d_Mo_fillMatrix_67 : decode prog_6_method_11_code 67 = .ok (.getfield 7, 3) := by decide +kernel
theorem d_Mo_fillMatrix_70 : decode prog_6_method_11_code 70 = .ok (.iload_n 1, 1) := by decide +kernel
theorem d_Mo_fillMatrix_71 : decode prog_6_method_11_code 71 = .ok (.iaload, 1) := by decide +kernel
theorem d_Mo_fillMatrix_72 : decode prog_6_method_11_code 72 = .ok (.aload_n 0, 1) := by decide +kernel
theorem d_Mo_fillMatrix_73 : decode prog_6_method_11_code 73 = .ok (.getfield 13, 3) := by decide +kernel
theorem d_Mo_fillMatrix_76 : decode prog_6_method_11_code 76 = .ok (.iload_n 1, 1) := by decide +kernel
theorem d_Mo_fillMatrix_77 : decode prog_6_method_11_code 77 = .ok (.iaload, 1) := by decide +kernel
theorem d_Mo_fillMatrix_78 : decode prog_6_method_11_code 78 = .ok (.iload_n 2, 1) := by decide +kernel
theorem d_Mo_fillMatrix_79 : decode prog_6_method_11_code 79 = .ok (.invokevirtual 92, 3) := by decide +kernel
theorem d_Mo_fillMatrix_82 : decode prog_6_method_11_code 82 = .ok (.ifCond .eq 33, 3) := by decide +kernel
theorem d_Mo_fillMatrix_85 : decode prog_6_method_11_code 85 = .ok (.aload_n 0, 1) := by decide +kernel
theorem d_Mo_fillMatrix_86 : decode prog_6_method_11_code 86 = .ok (.getfield 30, 3) := by decide +kernel
theorem d_Mo_fillMatrix_89 : decode prog_6_method_11_code 89 = .ok (.sipush 256, 3) := by decide +kernel
theorem d_Mo_fillMatrix_92 : decode prog_6_method_11_code 92 = .ok (.aload_n 0, 1) := by decide +kernel
theorem d_Mo_fillMatrix_93 : decode prog_6_method_11_code 93 = .ok (.getfield 78, 3) := by decide +kernel
theorem d_Mo_fillMatrix_96 : decode prog_6_method_11_code 96 = .ok (.imul, 1) := by decide +kernel
theorem d_Mo_fillMatrix_97 : decode prog_6_method_11_code 97 = .ok (.iload_n 2, 1) := by decide +kernel
theorem d_Mo_fillMatrix_98 : decode prog_6_method_11_code 98 = .ok (.iadd, 1) := by decide +kernel
theorem d_Mo_fillMatrix_99 : decode prog_6_method_11_code 99 = .ok (.dup2, 1) := by decide +kernel
theorem d_Mo_fillMatrix_100 : decode prog_6_method_11_code 100 = .ok (.laload, 1) := by decide +kernel
theorem d_Mo_fillMatrix_101 : decode prog_6_method_11_code 101 = .ok (.aload_n 0, 1) := by decide +kernel
theorem d_Mo_fillMatrix_102 : decode prog_6_method_11_code 102 = .ok (.getfield 85, 3) := by decide +kernel
theorem d_Mo_fillMatrix_105 : decode prog_6_method_11_code 105 = .ok (.i2l, 1) := by decide +kernel
theorem d_Mo_fillMatrix_106 : decode prog_6_method_11_code 106 = .ok (.aload_n 0, 1) := by decide +kernel
theorem d_Mo_fillMatrix_107 : decode prog_6_method_11_code 107 = .ok (.getfield 16, 3) := by decide +kernel
theorem d_Mo_fillMatrix_110 : decode prog_6_method_11_code 110 = .ok (.iload_n 1, 1) := by decide +kernel
theorem d_Mo_fillMatrix_111 : decode prog_6_method_11_code 111 = .ok (.laload, 1) := by decide +kernel
theorem d_Mo_fillMatrix_112 : decode prog_6_method_11_code 112 = .ok (.lmul, 1) := by decide +kernel
theorem d_Mo_fillMatrix_113 : decode prog_6_method_11_code 113 = .ok (.ladd, 1) := by decide +kernel
theorem d_Mo_fillMatrix_114 : decode prog_6_method_11_code 114 = .ok (.lastore, 1) := by decide +kernel
theorem d_Mo_fillMatrix_115 : decode prog_6_method_11_code 115 = .ok (.iinc 2 1, 3) := by decide +kernel
theorem d_Mo_fillMatrix_118 : decode prog_6_method_11_code 118 = .ok (.goto (-61), 3) := by decide +kernel
theorem d_Mo_fillMatrix_121 : decode prog_6_method_11_code 121 = .ok (.iinc 1 1, 3) := by decide +kernel
theorem d_Mo_fillMatrix_124 : decode prog_6_method_11_code 124 = .ok (.goto (-77), 3) := by decide +kernel
theorem d_Mo_fillMatrix_127 : decode prog_6_method_11_code 127 = .ok (.return_, 1) := by decide +kernel
theorem d_Mo_multiply_0 : decode prog_6_method_15_code 0 = .ok (.iconst 0, 1) := by decide +kernel
theorem d_Mo_multiply_1 : decode prog_6_method_15_code 1 = .ok (.istore 4, 2) := by decide +kernel
theorem d_Mo_multiply_3 : decode prog_6_method_15_code 3 = .ok (.iload 4, 2) := by decide +kernel
theorem d_Mo_multiply_5 : decode prog_6_method_15_code 5 = .ok (.aload_n 0, 1) := by decide +kernel
theorem d_Mo_multiply_6 : decode prog_6_method_15_code 6 = .ok (.invokevirtual 65, 3) := by decide +kernel
theorem d_Mo_multiply_9 : decode prog_6_method_15_code 9 = .ok (.if_icmp .ge 42, 3) := by decide +kernel
theorem d_Mo_multiply_12 : decode prog_6_method_15_code 12 = .ok (.iconst 0, 1) := by decide +kernel
theorem d_Mo_multiply_13 : decode prog_6_method_15_code 13 = .ok (.istore 5, 2) := by decide +kernel
theorem d_Mo_multiply_15 : decode prog_6_method_15_code 15 = .ok (.iload 5, 2) := by decide +kernel
theorem d_Mo_multiply_17 : decode prog_6_method_15_code 17 = .ok (.aload_n 0, 1) := by decide +kernel
theorem d_Mo_multiply_18 : decode prog_6_method_15_code 18 = .ok (.invokevirtual 65, 3) := by decide +kernel
theorem d_Mo_multiply_21 : decode prog_6_method_15_code 21 = .ok (.if_icmp .ge 24, 3) := by decide +kernel
theorem d_Mo_multiply_24 : decode prog_6_method_15_code 24 = .ok (.aload_n 0, 1) := by decide +kernel
theorem d_Mo_multiply_25 : decode prog_6_method_15_code 25 = .ok (.getfield 33, 3) := by decide +kernel
theorem d_Mo_multiply_28 : decode prog_6_method_15_code 28 = .ok (.sipush 256, 3) := by decide +kernel
theorem d_Mo_multiply_31 : decode prog_6_method_15_code 31 = .ok (.iload 4, 2) := by decide +kernel
theorem d_Mo_multiply_33 : decode prog_6_method_15_code 33 = .ok (.imul, 1) := by decide +kernel
theorem d_Mo_multiply_34 : decode prog_6_method_15_code 34 = .ok (.iload 5, 2) := by decide +kernel
theorem d_Mo_multiply_36 : decode prog_6_method_15_code 36 = .ok (.iadd, 1) := by decide +kernel
theorem d_Mo_multiply_37 : decode prog_6_method_15_code 37 = .ok (.lconst 0, 1) := by decide +kernel
theorem d_Mo_multiply_38 : decode prog_6_method_15_code 38 = .ok (.lastore, 1) := by decide +kernel
theorem d_Mo_multiply_39 : decode prog_6_method_15_code 39 = .ok (.iinc 5 1, 3) := by decide +kernel
theorem d_Mo_multiply_42 : decode prog_6_method_15_code 42 = .ok (.goto (-27), 3) := by decide +kernel
theorem d_Mo_multiply_45 : decode prog_6_method_15_code 45 = .ok (.iinc 4 1, 3) := by decide +kernel
theorem d_Mo_multiply_48 : decode prog_6_method_15_code 48 = .ok (.goto (-45), 3) := by decide +kernel
theorem d_Mo_multiply_51 : decode prog_6_method_15_code 51 = .ok (.iconst 0, 1) := by decide +kernel
theorem d_Mo_multiply_52 : decode prog_6_method_15_code 52 = .ok (.istore 4, 2) := by decide +kernel
theorem d_Mo_multiply_54 : decode prog_6_method_15_code 54 = .ok (.iload 4, 2) := by decide +kernel
theorem d_Mo_multiply_56 : decode prog_6_method_15_code 56 = .ok (.aload_n 0, 1) := by decide +kernel
theorem d_Mo_multiply_57 : decode prog_6_method_15_code 57 = .ok (.invokevirtual 65, 3) := by decide +kernel
theorem d_Mo_multiply_60 : decode prog_6_method_15_code 60 = .ok (.if_icmp .ge 135, 3) := by decide +kernel
theorem d_Mo_multiply_63 : decode prog_6_method_15_code 63 = .ok (.aload_n 0, 1) := by decide +kernel
theorem d_Mo_multiply_64 : decode prog_6_method_15_code 64 = .ok (.iload 4, 2) := by decide +kernel
theorem d_Mo_multiply_66 : decode prog_6_method_15_code 66 = .ok (.putfield 78, 3) := by decide +kernel
theorem d_Mo_multiply_69 : decode prog_6_method_15_code 69 = .ok (.aload_n 0, 1) := by decide +kernel
theorem d_Mo_multiply_70 : decode prog_6_method_15_code 70 = .ok (.iconst 1, 1) := by decide +kernel
theorem d_Mo_multiply_71 : decode prog_6_method_15_code 71 = .ok (.putfield 85, 3) := by decide +kernel
theorem d_Mo_multiply_74 : decode prog_6_method_15_code 74 = .ok (.aload_n 0, 1) := by decide +kernel
theorem d_Mo_multiply_75 : decode prog_6_method_15_code 75 = .ok (.iload_n 1, 1) := by decide +kernel
theorem d_Mo_multiply_76 : decode prog_6_method_15_code 76 = .ok (.iload_n 2, 1) := by decide +kernel
theorem d_Mo_multiply_77 : decode prog_6_method_15_code 77 = .ok (.invokevirtual 88, 3) := by decide +kernel
theorem d_Mo_multiply_80 : decode prog_6_method_15_code 80 = .ok (.ifCond .ne 6, 3) := by decide +kernel
theorem d_Mo_multiply_83 : decode prog_6_method_15_code 83 = .ok (.goto 106, 3) := by decide +kernel
theorem d_Mo_multiply_86 : decode prog_6_method_15_code 86 = .ok (.iconst 0, 1) := by decide +kernel
theorem d_Mo_multiply_87 : decode prog_6_method_15_code 87 = .ok (.istore 5, 2) := by decide +kernel
theorem d_Mo_multiply_89 : decode prog_6_method_15_code 89 = .ok (.iload 5, 2) := by decide +kernel
theorem d_Mo_multiply_91 : decode prog_6_method_15_code 91 = .ok (.aload_n 0, 1) := by decide +kernel
theorem d_Mo_multiply_92 : decode prog_6_method_15_code 92 = .ok (.invokevirtual 65, 3) := by decide +kernel
theorem d_Mo_multiply_95 : decode prog_6_method_15_code 95 = .ok (.if_icmp .ge 94, 3) := by decide +kernel
theorem d_Mo_multiply_98 : decode prog_6_method_15_code 98 = .ok (.iload_n 3, 1) := by decide +kernel
theorem d_Mo_multiply_99 : decode prog_6_method_15_code 99 = .ok (.ifCond .eq 45, 3) := by decide +kernel
theorem d_Mo_multiply_102 : decode prog_6_method_15_code 102 = .ok (.aload_n 0, 1) := by decide +kernel
theorem d_Mo_multiply_103 : decode prog_6_method_15_code 103 = .ok (.getfield 33, 3) := by decide +kernel
theorem d_Mo_multiply_106 : decode prog_6_method_15_code 106 = .ok (.sipush 256, 3) := by decide +kernel
theorem d_Mo_multiply_109 : decode prog_6_method_15_code 109 = .ok (.aload_n 0, 1) := by decide +kernel
theorem d_Mo_multiply_110 : decode prog_6_method_15_code 110 = .ok (.getfield 78, 3) := by decide +kernel
theorem d_Mo_multiply_113 : decode prog_6_method_15_code 113 = .ok (.imul, 1) := by decide +kernel
theorem d_Mo_multiply_114 : decode prog_6_method_15_code 114 = .ok (.iload 5, 2) := by decide +kernel
theorem d_Mo_multiply_116 : decode prog_6_method_15_code 116 = .ok (.iadd, 1) := by decide +kernel
theorem d_Mo_multiply_117 : decode prog_6_method_15_code 117 = .ok (.dup2, 1) := by decide +kernel
theorem d_Mo_multiply_118 : decode prog_6_method_15_code 118 = .ok (.laload, 1) := by decide +kernel
theorem d_Mo_multiply_119 : decode prog_6_method_15_code 119 = .ok (.aload_n 0, 1) := by decide +kernel
theorem d_Mo_multiply_120 : decode prog_6_method_15_code 120 = .ok (.getfield 85, 3) := by decide +kernel
theorem d_Mo_multiply_123 : decode prog_6_method_15_code 123 = .ok (.i2l, 1) := by decide +kernel
theorem d_Mo_multiply_124 : decode prog_6_method_15_code 124 = .ok (.aload_n 0, 1) := by decide +kernel
theorem d_Mo_multiply_125 : decode prog_6_method_15_code 125 = .ok (.getfield 30, 3) := by decide +kernel
theorem d_Mo_multiply_128 : decode prog_6_method_15_code 128 = .ok (.sipush 256, 3) := by decide +kernel
theorem d_Mo_multiply_131 : decode prog_6_method_15_code 131 = .ok (.iload 4, 2) := by decide +kernel
theorem d_Mo_multiply_133 : decode prog_6_method_15_code 133 = .ok (.imul, 1) := by decide +kernel
theorem d_Mo_multiply_134 : decode prog_6_method_15_code 134 = .ok (.iload 5, 2) := by decide +kernel
theorem d_Mo_multiply_136 : decode prog_6_method_15_code 136 = .ok (.iadd, 1) := by decide +kernel
theorem d_Mo_multiply_137 : decode prog_6_method_15_code 137 = .ok (.laload, 1) := by decide +kernel
theorem d_Mo_multiply_138 : decode prog_6_method_15_code 138 = .ok (.lmul, 1) := by decide +kernel
theorem d_Mo_multiply_139 : decode prog_6_method_15_code 139 = .ok (.ladd, 1) := by decide +kernel
theorem d_Mo_multiply_140 : decode prog_6_method_15_code 140 = .ok (.lastore, 1) := by decide +kernel
theorem d_Mo_multiply_141 : decode prog_6_method_15_code 141 = .ok (.goto 42, 3) := by decide +kernel
theorem d_Mo_multiply_144 : decode prog_6_method_15_code 144 = .ok (.aload_n 0, 1) := by decide +kernel
theorem d_Mo_multiply_145 : decode prog_6_method_15_code 145 = .ok (.getfield 33, 3) := by decide +kernel
theorem d_Mo_multiply_148 : decode prog_6_method_15_code 148 = .ok (.sipush 256, 3) := by decide +kernel
theorem d_Mo_multiply_151 : decode prog_6_method_15_code 151 = .ok (.iload 5, 2) := by decide +kernel
theorem d_Mo_multiply_153 : decode prog_6_method_15_code 153 = .ok (.imul, 1) := by decide +kernel
theorem d_Mo_multiply_154 : decode prog_6_method_15_code 154 = .ok (.iload 4, 2) := by decide +kernel
theorem d_Mo_multiply_156 : decode prog_6_method_15_code 156 = .ok (.iadd, 1) := by decide +kernel
theorem d_Mo_multiply_157 : decode prog_6_method_15_code 157 = .ok (.dup2, 1) := by decide +kernel
theorem d_Mo_multiply_158 : decode prog_6_method_15_code 158 = .ok (.laload, 1) := by decide +kernel
theorem d_Mo_multiply_159 : decode prog_6_method_15_code 159 = .ok (.aload_n 0, 1) := by decide +kernel
theorem d_Mo_multiply_160 : decode prog_6_method_15_code 160 = .ok (.getfield 85, 3) := by decide +kernel
theorem d_Mo_multiply_163 : decode prog_6_method_15_code 163 = .ok (.i2l, 1) := by decide +kernel
theorem d_Mo_multiply_164 : decode prog_6_method_15_code 164 = .ok (.aload_n 0, 1) := by decide +kernel
theorem d_Mo_multiply_165 : decode prog_6_method_15_code 165 = .ok (.getfield 30, 3) := by decide +kernel
theorem d_Mo_multiply_168 : decode prog_6_method_15_code 168 = .ok (.sipush 256, 3) := by decide +kernel
theorem d_Mo_multiply_171 : decode prog_6_method_15_code 171 = .ok (.iload 5, 2) := by decide +kernel
theorem d_Mo_multiply_173 : decode prog_6_method_15_code 173 = .ok (.imul, 1) := by decide +kernel
theorem d_Mo_multiply_174 : decode prog_6_method_15_code 174 = .ok (.aload_n 0, 1) := by decide +kernel
theorem d_Mo_multiply_175 : decode prog_6_method_15_code 175 = .ok (.getfield 78, 3) := by decide +kernel
theorem d_Mo_multiply_178 : decode prog_6_method_15_code 178 = .ok (.iadd, 1) := by decide +kernel
theorem d_Mo_multiply_179 : decode prog_6_method_15_code 179 = .ok (.laload, 1) := by decide +kernel
theorem d_Mo_multiply_180 : decode prog_6_method_15_code 180 = .ok (.lmul, 1) := by decide +kernel
theorem d_Mo_multiply_181 : decode prog_6_method_15_code 181 = .ok (.ladd, 1) := by decide +kernel
theorem d_Mo_multiply_182 : decode prog_6_method_15_code 182 = .ok (.lastore, 1) := by decide +kernel
theorem d_Mo_multiply_183 : decode prog_6_method_15_code 183 = .ok (.iinc 5 1, 3) := by decide +kernel
theorem d_Mo_multiply_186 : decode prog_6_method_15_code 186 = .ok (.goto (-97), 3) := by decide +kernel
theorem d_Mo_multiply_189 : decode prog_6_method_15_code 189 = .ok (.iinc 4 1, 3) := by decide +kernel
theorem d_Mo_multiply_192 : decode prog_6_method_15_code 192 = .ok (.goto (-138), 3) := by decide +kernel
theorem d_Mo_multiply_195 : decode prog_6_method_15_code 195 = .ok (.return_, 1) := by decide +kernel
theorem d_Mo_readOff_0 : decode prog_6_method_16_code 0 = .ok (.iconst 1, 1) := by decide +kernel
theorem d_Mo_readOff_1 : decode prog_6_method_16_code 1 = .ok (.istore_n 1, 1) := by decide +kernel
theorem d_Mo_readOff_2 : decode prog_6_method_16_code 2 = .ok (.aload_n 0, 1) := by decide +kernel
theorem d_Mo_readOff_3 : decode prog_6_method_16_code 3 = .ok (.iconst 0, 1) := by decide +kernel
theorem d_Mo_readOff_4 : decode prog_6_method_16_code 4 = .ok (.putfield 96, 3) := by decide +kernel
theorem d_Mo_readOff_7 : decode prog_6_method_16_code 7 = .ok (.iconst 0, 1) := by decide +kernel
theorem d_Mo_readOff_8 : decode prog_6_method_16_code 8 = .ok (.istore_n 2, 1) := by decide +kernel
theorem d_Mo_readOff_9 : decode prog_6_method_16_code 9 = .ok (.iload_n 2, 1) := by decide +kernel
theorem d_Mo_readOff_10 : decode prog_6_method_16_code 10 = .ok (.aload_n 0, 1) := by decide +kernel
theorem d_Mo_readOff_11 : decode prog_6_method_16_code 11 = .ok (.invokevirtual 65, 3) := by decide +kernel
theorem d_Mo_readOff_14 : decode prog_6_method_16_code 14 = .ok (.if_icmp .ge 177, 3) := by decide +kernel
theorem d_Mo_readOff_17 : decode prog_6_method_16_code 17 = .ok (.iconst 0, 1) := by decide +kernel
theorem d_Mo_readOff_18 : decode prog_6_method_16_code 18 = .ok (.istore_n 3, 1) := by decide +kernel
theorem d_Mo_readOff_19 : decode prog_6_method_16_code 19 = .ok (.iload_n 3, 1) := by decide +kernel
theorem d_Mo_readOff_20 : decode prog_6_method_16_code 20 = .ok (.aload_n 0, 1) := by decide +kernel
theorem d_Mo_readOff_21 : decode prog_6_method_16_code 21 = .ok (.invokevirtual 65, 3) := by decide +kernel
theorem d_Mo_readOff_24 : decode prog_6_method_16_code 24 = .ok (.if_icmp .ge 161, 3) := by decide +kernel
theorem d_Mo_readOff_27 : decode prog_6_method_16_code 27 = .ok (.aload_n 0, 1) := by decide +kernel
theorem d_Mo_readOff_28 : decode prog_6_method_16_code 28 = .ok (.getfield 33, 3) := by decide +kernel
theorem d_Mo_readOff_31 : decode prog_6_method_16_code 31 = .ok (.sipush 256, 3) := by decide +kernel
theorem d_Mo_readOff_34 : decode prog_6_method_16_code 34 = .ok (.iload_n 2, 1) := by decide +kernel
theorem d_Mo_readOff_35 : decode prog_6_method_16_code 35 = .ok (.imul, 1) := by decide +kernel
theorem d_Mo_readOff_36 : decode prog_6_method_16_code 36 = .ok (.iload_n 3, 1) := by decide +kernel
theorem d_Mo_readOff_37 : decode prog_6_method_16_code 37 = .ok (.iadd, 1) := by decide +kernel
theorem d_Mo_readOff_38 : decode prog_6_method_16_code 38 = .ok (.laload, 1) := by decide +kernel
theorem d_Mo_readOff_39 : decode prog_6_method_16_code 39 = .ok (.lstore 4, 2) := by decide +kernel
theorem d_Mo_readOff_41 : decode prog_6_method_16_code 41 = .ok (.iload_n 2, 1) := by decide +kernel
theorem d_Mo_readOff_42 : decode prog_6_method_16_code 42 = .ok (.iload_n 3, 1) := by decide +kernel
theorem d_Mo_readOff_43 : decode prog_6_method_16_code 43 = .ok (.iand, 1) := by decide +kernel
theorem d_Mo_readOff_44 : decode prog_6_method_16_code 44 = .ok (.istore 6, 2) := by decide +kernel
theorem d_Mo_readOff_46 : decode prog_6_method_16_code 46 = .ok (.iload 6, 2) := by decide +kernel
theorem d_Mo_readOff_48 : decode prog_6_method_16_code 48 = .ok (.istore 7, 2) := by decide +kernel
theorem d_Mo_readOff_50 : decode prog_6_method_16_code 50 = .ok (.iload 7, 2) := by decide +kernel
theorem d_Mo_readOff_52 : decode prog_6_method_16_code 52 = .ok (.ifCond .le 68, 3) := by decide +kernel
theorem d_Mo_readOff_55 : decode prog_6_method_16_code 55 = .ok (.aload_n 0, 1) := by decide +kernel
theorem d_Mo_readOff_56 : decode prog_6_method_16_code 56 = .ok (.iload_n 2, 1) := by decide +kernel
theorem d_Mo_readOff_57 : decode prog_6_method_16_code 57 = .ok (.iload 7, 2) := by decide +kernel
theorem d_Mo_readOff_59 : decode prog_6_method_16_code 59 = .ok (.iconst (-1), 1) := by decide +kernel
theorem d_Mo_readOff_60 : decode prog_6_method_16_code 60 = .ok (.ixor, 1) := by decide +kernel
theorem d_Mo_readOff_61 : decode prog_6_method_16_code 61 = .ok (.iand, 1) := by decide +kernel
theorem d_Mo_readOff_62 : decode prog_6_method_16_code 62 = .ok (.iload_n 3, 1) := by decide +kernel
theorem d_Mo_readOff_63 : decode prog_6_method_16_code 63 = .ok (.iload 7, 2) := by decide +kernel
theorem d_Mo_readOff_65 : decode prog_6_method_16_code 65 = .ok (.iconst (-1), 1) := by decide +kernel
theorem d_Mo_readOff_66 : decode prog_6_method_16_code 66 = .ok (.ixor, 1) := by decide +kernel
theorem d_Mo_readOff_67 : decode prog_6_method_16_code 67 = .ok (.iand, 1) := by decide +kernel
theorem d_Mo_readOff_68 : decode prog_6_method_16_code 68 = .ok (.iload_n 3, 1) := by decide +kernel
theorem d_Mo_readOff_69 : decode prog_6_method_16_code 69 = .ok (.invokevirtual 92, 3) := by decide +kernel
theorem d_Mo_readOff_72 : decode prog_6_method_16_code 72 = .ok (.ifCond .eq 36, 3) := by decide +kernel
theorem d_Mo_readOff_75 : decode prog_6_method_16_code 75 = .ok (.lload 4, 2) := by decide +kernel
theorem d_Mo_readOff_77 : decode prog_6_method_16_code 77 = .ok (.aload_n 0, 1) := by decide +kernel
theorem d_Mo_readOff_78 : decode prog_6_method_16_code 78 = .ok (.getfield 85, 3) := by decide +kernel
theorem d_Mo_readOff_81 : decode prog_6_method_16_code 81 = .ok (.i2l, 1) := by decide +kernel
theorem d_Mo_readOff_82 : decode prog_6_method_16_code 82 = .ok (.aload_n 0, 1) := by decide +kernel
theorem d_Mo_readOff_83 : decode prog_6_method_16_code 83 = .ok (.getfield 45, 3) := by decide +kernel
theorem d_Mo_readOff_86 : decode prog_6_method_16_code 86 = .ok (.sipush 256, 3) := by decide +kernel
theorem d_Mo_readOff_89 : decode prog_6_method_16_code 89 = .ok (.iload_n 2, 1) := by decide +kernel
theorem d_Mo_readOff_90 : decode prog_6_method_16_code 90 = .ok (.iload 7, 2) := by decide +kernel
theorem d_Mo_readOff_92 : decode prog_6_method_16_code 92 = .ok (.iconst (-1), 1) := by decide +kernel
theorem d_Mo_readOff_93 : decode prog_6_method_16_code 93 = .ok (.ixor, 1) := by decide +kernel
theorem d_Mo_readOff_94 : decode prog_6_method_16_code 94 = .ok (.iand, 1) := by decide +kernel
theorem d_Mo_readOff_95 : decode prog_6_method_16_code 95 = .ok (.imul, 1) := by decide +kernel
theorem d_Mo_readOff_96 : decode prog_6_method_16_code 96 = .ok (.iload_n 3, 1) := by decide +kernel
theorem d_Mo_readOff_97 : decode prog_6_method_16_code 97 = .ok (.iload 7, 2) := by decide +kernel
theorem d_Mo_readOff_99 : decode prog_6_method_16_code 99 = .ok (.iconst (-1), 1) := by decide +kernel
theorem d_Mo_readOff_100 : decode prog_6_method_16_code 100 = .ok (.ixor, 1) := by decide +kernel
theorem d_Mo_readOff_101 : decode prog_6_method_16_code 101 = .ok (.iand, 1) := by decide +kernel
theorem d_Mo_readOff_102 : decode prog_6_method_16_code 102 = .ok (.iadd, 1) := by decide +kernel
theorem d_Mo_readOff_103 : decode prog_6_method_16_code 103 = .ok (.laload, 1) := by decide +kernel
theorem d_Mo_readOff_104 : decode prog_6_method_16_code 104 = .ok (.lmul, 1) := by decide +kernel
theorem d_Mo_readOff_105 : decode prog_6_method_16_code 105 = .ok (.lsub, 1) := by decide +kernel
theorem d_Mo_readOff_106 : decode prog_6_method_16_code 106 = .ok (.lstore 4, 2) := by decide +kernel
theorem d_Mo_readOff_108 : decode prog_6_method_16_code 108 = .ok (.iload 7, 2) := by decide +kernel
theorem d_Mo_readOff_110 : decode prog_6_method_16_code 110 = .ok (.iconst 1, 1) := by decide +kernel
theorem d_Mo_readOff_111 : decode prog_6_method_16_code 111 = .ok (.isub, 1) := by decide +kernel
theorem d_Mo_readOff_112 : decode prog_6_method_16_code 112 = .ok (.iload 6, 2) := by decide +kernel
theorem d_Mo_readOff_114 : decode prog_6_method_16_code 114 = .ok (.iand, 1) := by decide +kernel
theorem d_Mo_readOff_115 : decode prog_6_method_16_code 115 = .ok (.istore 7, 2) := by decide +kernel
theorem d_Mo_readOff_117 : decode prog_6_method_16_code 117 = .ok (.goto (-67), 3) := by decide +kernel
theorem d_Mo_readOff_120 : decode prog_6_method_16_code 120 = .ok (.aload_n 0, 1) := by decide +kernel
theorem d_Mo_readOff_121 : decode prog_6_method_16_code 121 = .ok (.iload_n 2, 1) := by decide +kernel
theorem d_Mo_readOff_122 : decode prog_6_method_16_code 122 = .ok (.iload_n 3, 1) := by decide +kernel
theorem d_Mo_readOff_123 : decode prog_6_method_16_code 123 = .ok (.iload_n 3, 1) := by decide +kernel
theorem d_Mo_readOff_124 : decode prog_6_method_16_code 124 = .ok (.invokevirtual 92, 3) := by decide +kernel
theorem d_Mo_readOff_127 : decode prog_6_method_16_code 127 = .ok (.pop, 1) := by decide +kernel
theorem d_Mo_readOff_128 : decode prog_6_method_16_code 128 = .ok (.aload_n 0, 1) := by decide +kernel
theorem d_Mo_readOff_129 : decode prog_6_method_16_code 129 = .ok (.getfield 45, 3) := by decide +kernel
theorem d_Mo_readOff_132 : decode prog_6_method_16_code 132 = .ok (.sipush 256, 3) := by decide +kernel
theorem d_Mo_readOff_135 : decode prog_6_method_16_code 135 = .ok (.iload_n 2, 1) := by decide +kernel
theorem d_Mo_readOff_136 : decode prog_6_method_16_code 136 = .ok (.imul, 1) := by decide +kernel
theorem d_Mo_readOff_137 : decode prog_6_method_16_code 137 = .ok (.iload_n 3, 1) := by decide +kernel
theorem d_Mo_readOff_138 : decode prog_6_method_16_code 138 = .ok (.iadd, 1) := by decide +kernel
theorem d_Mo_readOff_139 : decode prog_6_method_16_code 139 = .ok (.aload_n 0, 1) := by decide +kernel
theorem d_Mo_readOff_140 : decode prog_6_method_16_code 140 = .ok (.getfield 85, 3) := by decide +kernel
theorem d_Mo_readOff_143 : decode prog_6_method_16_code 143 = .ok (.i2l, 1) := by decide +kernel
theorem d_Mo_readOff_144 : decode prog_6_method_16_code 144 = .ok (.lload 4, 2) := by decide +kernel
theorem d_Mo_readOff_146 : decode prog_6_method_16_code 146 = .ok (.lmul, 1) := by decide +kernel
theorem d_Mo_readOff_147 : decode prog_6_method_16_code 147 = .ok (.lastore, 1) := by decide +kernel
theorem d_Mo_readOff_148 : decode prog_6_method_16_code 148 = .ok (.iload_n 1, 1) := by decide +kernel
theorem d_Mo_readOff_149 : decode prog_6_method_16_code 149 = .ok (.ifCond .eq 28, 3) := by decide +kernel
theorem d_Mo_readOff_152 : decode prog_6_method_16_code 152 = .ok (.aload_n 0, 1) := by decide +kernel
theorem d_Mo_readOff_153 : decode prog_6_method_16_code 153 = .ok (.iload_n 2, 1) := by decide +kernel
theorem d_Mo_readOff_154 : decode prog_6_method_16_code 154 = .ok (.iload_n 3, 1) := by decide +kernel
theorem d_Mo_readOff_155 : decode prog_6_method_16_code 155 = .ok (.aload_n 0, 1) := by decide +kernel
theorem d_Mo_readOff_156 : decode prog_6_method_16_code 156 = .ok (.getfield 45, 3) := by decide +kernel
theorem d_Mo_readOff_159 : decode prog_6_method_16_code 159 = .ok (.sipush 256, 3) := by decide +kernel
theorem d_Mo_readOff_162 : decode prog_6_method_16_code 162 = .ok (.iload_n 2, 1) := by decide +kernel
theorem d_Mo_readOff_163 : decode prog_6_method_16_code 163 = .ok (.imul, 1) := by decide +kernel
theorem d_Mo_readOff_164 : decode prog_6_method_16_code 164 = .ok (.iload_n 3, 1) := by decide +kernel
theorem d_Mo_readOff_165 : decode prog_6_method_16_code 165 = .ok (.iadd, 1) := by decide +kernel
theorem d_Mo_readOff_166 : decode prog_6_method_16_code 166 = .ok (.laload, 1) := by decide +kernel
theorem d_Mo_readOff_167 : decode prog_6_method_16_code 167 = .ok (.invokevirtual 111, 3) := by decide +kernel
theorem d_Mo_readOff_170 : decode prog_6_method_16_code 170 = .ok (.ifCond .eq 7, 3) := by decide +kernel
theorem d_Mo_readOff_173 : decode prog_6_method_16_code 173 = .ok (.iconst 1, 1) := by decide +kernel
theorem d_Mo_readOff_174 : decode prog_6_method_16_code 174 = .ok (.goto 4, 3) := by decide +kernel
theorem d_Mo_readOff_177 : decode prog_6_method_16_code 177 = .ok (.iconst 0, 1) := by decide +kernel
theorem d_Mo_readOff_178 : decode prog_6_method_16_code 178 = .ok (.istore_n 1, 1) := by decide +kernel
theorem d_Mo_readOff_179 : decode prog_6_method_16_code 179 = .ok (.iinc 3 1, 3) := by decide +kernel
theorem d_Mo_readOff_182 : decode prog_6_method_16_code 182 = .ok (.goto (-163), 3) := by decide +kernel
theorem d_Mo_readOff_185 : decode prog_6_method_16_code 185 = .ok (.iinc 2 1, 3) := by decide +kernel
theorem d_Mo_readOff_188 : decode prog_6_method_16_code 188 = .ok (.goto (-179), 3) := by decide +kernel
theorem d_Mo_readOff_191 : decode prog_6_method_16_code 191 = .ok (.iload_n 1, 1) := by decide +kernel
theorem d_Mo_readOff_192 : decode prog_6_method_16_code 192 = .ok (.ireturn, 1) := by decide +kernel
theorem d_Mo_ladder_0 : decode prog_6_method_17_code 0 = .ok (.aload_n 0, 1) := by decide +kernel
theorem d_Mo_ladder_1 : decode prog_6_method_17_code 1 = .ok (.iconst 0, 1) := by decide +kernel
theorem d_Mo_ladder_2 : decode prog_6_method_17_code 2 = .ok (.putfield 58, 3) := by decide +kernel
theorem d_Mo_ladder_5 : decode prog_6_method_17_code 5 = .ok (.iload_n 1, 1) := by decide +kernel
theorem d_Mo_ladder_6 : decode prog_6_method_17_code 6 = .ok (.ifCond .lt 11, 3) := by decide +kernel
theorem d_Mo_ladder_9 : decode prog_6_method_17_code 9 = .ok (.iload_n 1, 1) := by decide +kernel
theorem d_Mo_ladder_10 : decode prog_6_method_17_code 10 = .ok (.aload_n 0, 1) := by decide +kernel
theorem d_Mo_ladder_11 : decode prog_6_method_17_code 11 = .ok (.getfield 62, 3) := by decide +kernel
theorem d_Mo_ladder_14 : decode prog_6_method_17_code 14 = .ok (.if_icmp .lt 5, 3) := by decide +kernel
theorem d_Mo_ladder_17 : decode prog_6_method_17_code 17 = .ok (.iconst (-1), 1) := by decide +kernel
theorem d_Mo_ladder_18 : decode prog_6_method_17_code 18 = .ok (.ireturn, 1) := by decide +kernel
theorem d_Mo_ladder_19 : decode prog_6_method_17_code 19 = .ok (.aload_n 0, 1) := by decide +kernel
theorem d_Mo_ladder_20 : decode prog_6_method_17_code 20 = .ok (.invokevirtual 118, 3) := by decide +kernel
theorem d_Mo_ladder_23 : decode prog_6_method_17_code 23 = .ok (.aload_n 0, 1) := by decide +kernel
theorem d_Mo_ladder_24 : decode prog_6_method_17_code 24 = .ok (.iload_n 1, 1) := by decide +kernel
theorem d_Mo_ladder_25 : decode prog_6_method_17_code 25 = .ok (.iload_n 2, 1) := by decide +kernel
theorem d_Mo_ladder_26 : decode prog_6_method_17_code 26 = .ok (.iload_n 3, 1) := by decide +kernel
theorem d_Mo_ladder_27 : decode prog_6_method_17_code 27 = .ok (.invokevirtual 121, 3) := by decide +kernel
theorem d_Mo_ladder_30 : decode prog_6_method_17_code 30 = .ok (.aload_n 0, 1) := by decide +kernel
theorem d_Mo_ladder_31 : decode prog_6_method_17_code 31 = .ok (.invokevirtual 125, 3) := by decide +kernel
theorem d_Mo_ladder_34 : decode prog_6_method_17_code 34 = .ok (.ifCond .eq 10, 3) := by decide +kernel
theorem d_Mo_ladder_37 : decode prog_6_method_17_code 37 = .ok (.aload_n 0, 1) := by decide +kernel
theorem d_Mo_ladder_38 : decode prog_6_method_17_code 38 = .ok (.invokevirtual 115, 3) := by decide +kernel
theorem d_Mo_ladder_41 : decode prog_6_method_17_code 41 = .ok (.goto 4, 3) := by decide +kernel
theorem d_Mo_ladder_44 : decode prog_6_method_17_code 44 = .ok (.iconst (-1), 1) := by decide +kernel
theorem d_Mo_ladder_45 : decode prog_6_method_17_code 45 = .ok (.ireturn, 1) := by decide +kernel
/-! FermionMapsModel.fillMatrix()V -/
def b_Mo_fillMatrix_115 (F : Nat) (k_47 : Int32 → Int32 → Int32 → (Nat → Int64) → Option (Int32 × Int32 × (Nat → Int64))) (k_57 : Int32 → Int32 → Int32 → Int32 → (Nat → Int64) → Option (Int32 × Int32 × (Nat → Int64))) (modes : Int32) (products : Int32) (upsOf : Nat → Int32) (downsOf : Nat → Int32) (numberOf : Nat → Int64) (x1 : Int32) (x2 : Int32) (madeState : Int32) (madeSign : Int32) (matrix : Nat → Int64) : Option (Int32 × Int32 × (Nat → Int64)) :=
  nm (x2 + 1 : Int32) fun x2_11 =>
  k_57 x1 x2_11 madeState madeSign matrix
def b_Mo_fillMatrix_57 (F : Nat) (k_47 : Int32 → Int32 → Int32 → (Nat → Int64) → Option (Int32 × Int32 × (Nat → Int64))) (modes : Int32) (products : Int32) (upsOf : Nat → Int32) (downsOf : Nat → Int32) (numberOf : Nat → Int64) : Nat → Int32 → Int32 → Int32 → Int32 → (Nat → Int64) → Option (Int32 × Int32 × (Nat → Int64))
  | 0, _, _, _, _, _ => none
  | n + 1, x1, x2, madeState, madeSign, matrix =>
    (f_Mo_states F modes).bind fun u_4 =>
    if u_4 ≤ x2 then
      nm (x1 + 1 : Int32) fun x1_6 =>
      k_47 x1_6 madeState madeSign matrix
    else
      ckI x1 60 <|
      ckI x1 60 <|
      (f_Mo_make F madeState madeSign (upsOf x1.toNatClampNeg) (downsOf x1.toNatClampNeg) x2).bind fun u_9 =>
      if u_9.1 = 0 then
        b_Mo_fillMatrix_115 F k_47 (b_Mo_fillMatrix_57 F k_47 modes products upsOf downsOf numberOf n) modes products upsOf downsOf numberOf x1 x2 u_9.2.1 u_9.2.2 matrix
      else
        nm (((256 * u_9.2.1) + x2) : Int32) fun t_12 =>
        ckI t_12 65536 <|
        ckI x1 60 <|
        nm (((matrix t_12.toNatClampNeg) + ((u_9.2.2.toInt64) * (numberOf x1.toNatClampNeg))) : Int64) fun t_15 =>
        ckI t_12 65536 <|
        b_Mo_fillMatrix_115 F k_47 (b_Mo_fillMatrix_57 F k_47 modes products upsOf downsOf numberOf n) modes products upsOf downsOf numberOf x1 x2 u_9.2.1 u_9.2.2 (vp_updL matrix t_12.toNatClampNeg t_15)
def b_Mo_fillMatrix_47 (F : Nat) (modes : Int32) (products : Int32) (upsOf : Nat → Int32) (downsOf : Nat → Int32) (numberOf : Nat → Int64) : Nat → Int32 → Int32 → Int32 → (Nat → Int64) → Option (Int32 × Int32 × (Nat → Int64))
  | 0, _, _, _, _ => none
  | n + 1, x1, madeState, madeSign, matrix =>
    if products ≤ x1 then
      some (madeState, madeSign, matrix)
    else
      b_Mo_fillMatrix_57 F (b_Mo_fillMatrix_47 F modes products upsOf downsOf numberOf n) modes products upsOf downsOf numberOf F x1 0 madeState madeSign matrix
def b_Mo_fillMatrix_12 (F : Nat) (k_2 : Int32 → Int32 → Int32 → (Nat → Int64) → Option (Int32 × Int32 × (Nat → Int64))) (modes : Int32) (products : Int32) (upsOf : Nat → Int32) (downsOf : Nat → Int32) (numberOf : Nat → Int64) : Nat → Int32 → Int32 → Int32 → Int32 → (Nat → Int64) → Option (Int32 × Int32 × (Nat → Int64))
  | 0, _, _, _, _, _ => none
  | n + 1, x1, x2, madeState, madeSign, matrix =>
    (f_Mo_states F modes).bind fun u_17 =>
    if u_17 ≤ x2 then
      nm (x1 + 1 : Int32) fun x1_19 =>
      k_2 x1_19 madeState madeSign matrix
    else
      ckI ((256 * x1) + x2) 65536 <|
      nm (x2 + 1 : Int32) fun x2_21 =>
      b_Mo_fillMatrix_12 F k_2 modes products upsOf downsOf numberOf n x1 x2_21 madeState madeSign (vp_updL matrix ((256 * x1) + x2).toNatClampNeg 0)
def b_Mo_fillMatrix_2 (F : Nat) (modes : Int32) (products : Int32) (upsOf : Nat → Int32) (downsOf : Nat → Int32) (numberOf : Nat → Int64) : Nat → Int32 → Int32 → Int32 → (Nat → Int64) → Option (Int32 × Int32 × (Nat → Int64))
  | 0, _, _, _, _ => none
  | n + 1, x1, madeState, madeSign, matrix =>
    (f_Mo_states F modes).bind fun u_1 =>
    if u_1 ≤ x1 then
      b_Mo_fillMatrix_47 F modes products upsOf downsOf numberOf F 0 madeState madeSign matrix
    else
      b_Mo_fillMatrix_12 F (b_Mo_fillMatrix_2 F modes products upsOf downsOf numberOf n) modes products upsOf downsOf numberOf F x1 0 madeState madeSign matrix
def f_Mo_fillMatrix (F : Nat) (modes : Int32) (products : Int32) (madeState : Int32) (madeSign : Int32) (upsOf : Nat → Int32) (downsOf : Nat → Int32) (numberOf : Nat → Int64) (matrix : Nat → Int64) : Option (Int32 × Int32 × (Nat → Int64)) :=
  b_Mo_fillMatrix_2 F modes products upsOf downsOf numberOf F 0 madeState madeSign matrix
abbrev rm_Mo_fillMatrix : Room := { frames := 3, cells := 0, slots := 0, locals := 69 }
set_option maxHeartbeats 4000000 in
set_option maxRecDepth 100000 in
theorem c_Mo_fillMatrix (l : Launch) (dC : Nat → ClassId) (dI : Nat → Nat → Nat) (cI cJ : ClassId) (a_p0 a_upsOf a_downsOf a_numberOf a_matrix z_rowOf z_writes z_reads z_other z_newUps z_newDowns z_newNumber z_found z_image z_imagePlace : Nat) (sz : Nat) (thrown : Int32) (modes : Int32) (products : Int32) (wayKind : Int32) (isImageKnown : Int32) (madeState : Int32) (madeSign : Int32) (newMany : Int32) (imagePower : Int32) (imageMany : Int32) (imageWires : Int32) (upsOf : Nat → Int32) (downsOf : Nat → Int32) (numberOf : Nat → Int64) (matrix : Nat → Int64) (F : Nat) (u : Int32 × Int32 × (Nat → Int64)) (hf : f_Mo_fillMatrix F modes products madeState madeSign upsOf downsOf numberOf matrix = some u) : Met l y_Mo_fillMatrix (Cond.code y_Mo_fillMatrix prog_6_method_11_code 3 none :: T0) rm_Mo_fillMatrix (va_Pc [.ref a_p0] (Ww (dC, dI) [(a_p0, .inr (4, [.int thrown, .int modes, .int products, .ref a_upsOf, .ref a_downsOf, .ref a_numberOf, .int wayKind, .ref z_rowOf, .ref z_writes, .ref z_reads, .int isImageKnown, .int madeState, .int madeSign, .ref a_matrix, .ref z_other, .int newMany, .ref z_newUps, .ref z_newDowns, .ref z_newNumber, .ref z_found, .ref z_image, .ref z_imagePlace, .int imagePower, .int imageMany, .int imageWires])), (a_upsOf, .inl (cI, 60, .inl upsOf)), (a_downsOf, .inl (cI, 60, .inl downsOf)), (a_numberOf, .inl (cJ, 60, .inr (.inl numberOf))), (a_matrix, .inl (cJ, 65536, .inr (.inl matrix)))] [(cI, .int), (cJ, .long)] sz)) (va_Qv (fun _ : Unit => True) (Bw (dC, dI) [(cI, .int), (cJ, .long)] (va_A [(a_p0, .inr (4, [.int thrown, .int modes, .int products, .ref a_upsOf, .ref a_downsOf, .ref a_numberOf, .int wayKind, .ref z_rowOf, .ref z_writes, .ref z_reads, .int isImageKnown, .int madeState, .int madeSign, .ref a_matrix, .ref z_other, .int newMany, .ref z_newUps, .ref z_newDowns, .ref z_newNumber, .ref z_found, .ref z_image, .ref z_imagePlace, .int imagePower, .int imageMany, .int imageWires])), (a_upsOf, .inl (cI, 60, .inl upsOf)), (a_downsOf, .inl (cI, 60, .inl downsOf)), (a_numberOf, .inl (cJ, 60, .inr (.inl numberOf))), (a_matrix, .inl (cJ, 65536, .inr (.inl matrix)))] sz) (fun w1 => w1 = [(a_p0, .inr (4, [.int thrown, .int modes, .int products, .ref a_upsOf, .ref a_downsOf, .ref a_numberOf, .int wayKind, .ref z_rowOf, .ref z_writes, .ref z_reads, .int isImageKnown, .int u.1, .int u.2.1, .ref a_matrix, .ref z_other, .int newMany, .ref z_newUps, .ref z_newDowns, .ref z_newNumber, .ref z_found, .ref z_image, .ref z_imagePlace, .int imagePower, .int imageMany, .int imageWires])), (a_upsOf, .inl (cI, 60, .inl upsOf)), (a_downsOf, .inl (cI, 60, .inl downsOf)), (a_numberOf, .inl (cJ, 60, .inr (.inl numberOf))), (a_matrix, .inl (cJ, 65536, .inr (.inl u.2.2)))])) (va_A [(a_p0, .inr (4, [.int thrown, .int modes, .int products, .ref a_upsOf, .ref a_downsOf, .ref a_numberOf, .int wayKind, .ref z_rowOf, .ref z_writes, .ref z_reads, .int isImageKnown, .int madeState, .int madeSign, .ref a_matrix, .ref z_other, .int newMany, .ref z_newUps, .ref z_newDowns, .ref z_newNumber, .ref z_found, .ref z_image, .ref z_imagePlace, .int imagePower, .int imageMany, .int imageWires])), (a_upsOf, .inl (cI, 60, .inl upsOf)), (a_downsOf, .inl (cI, 60, .inl downsOf)), (a_numberOf, .inl (cJ, 60, .inr (.inl numberOf))), (a_matrix, .inl (cJ, 65536, .inr (.inl matrix)))] sz)) 0 0 (va_A [(a_p0, .inr (4, [.int thrown, .int modes, .int products, .ref a_upsOf, .ref a_downsOf, .ref a_numberOf, .int wayKind, .ref z_rowOf, .ref z_writes, .ref z_reads, .int isImageKnown, .int madeState, .int madeSign, .ref a_matrix, .ref z_other, .int newMany, .ref z_newUps, .ref z_newDowns, .ref z_newNumber, .ref z_found, .ref z_image, .ref z_imagePlace, .int imagePower, .int imageMany, .int imageWires])), (a_upsOf, .inl (cI, 60, .inl upsOf)), (a_downsOf, .inl (cI, 60, .inl downsOf)), (a_numberOf, .inl (cJ, 60, .inr (.inl numberOf))), (a_matrix, .inl (cJ, 65536, .inr (.inl matrix)))] sz) := by
  refine Met.ofW (cc := prog_6_method_11_code) (maxL := 3) (ret := none) (by decide) rfl ?_
  intro p e s m args below meth c s₁ B hml hv
  obtain ⟨rfl, hsz, hP, hK, hD0, hNW⟩ := hv
  have hx := B.exec
  have hb := B.bytes
  have hr := B.returns
  have hts := atoms_spec (ws := Cond.code y_Mo_fillMatrix prog_6_method_11_code 3 none :: T0) B.pre
  have ht0 : ∀ w ∈ T0, w.before ([.ref a_p0] : List Value).toArray s = true := fun w h => hts w (List.mem_cons_of_mem _ h)
  have hown : s.vm.findClass "FermionMapsModel" = some m.cls := findClass_of_methodNamed B.named
  have hlocks := B.notSynchronized
  subst hsz
  have hD := hD0.self (sz := s.heap.size)
  generalize hAe : va_A [(a_p0, .inr (4, [.int thrown, .int modes, .int products, .ref a_upsOf, .ref a_downsOf, .ref a_numberOf, .int wayKind, .ref z_rowOf, .ref z_writes, .ref z_reads, .int isImageKnown, .int madeState, .int madeSign, .ref a_matrix, .ref z_other, .int newMany, .ref z_newUps, .ref z_newDowns, .ref z_newNumber, .ref z_found, .ref z_image, .ref z_imagePlace, .int imagePower, .int imageMany, .int imageWires])), (a_upsOf, .inl (cI, 60, .inl upsOf)), (a_downsOf, .inl (cI, 60, .inl downsOf)), (a_numberOf, .inl (cJ, 60, .inr (.inl numberOf))), (a_matrix, .inl (cJ, 65536, .inr (.inl matrix)))] s.heap.size = A at hD ⊢
  have hA : ∀ q : Nat, s.heap.size ≤ q → A q := fun q h => by rw [← hAe]; exact Or.inr h
  have hS : va_S A s.heap s.heap [] := va_S.rf
  have hl := lv_entry ([.ref a_p0]) (n := 3) (Nat.le_of_ble_eq_true rfl)
  rw [lg_entry_eq]
  generalize (lg_sl ([.ref a_p0]) ++ List.replicate (3 - (lg_sl ([.ref a_p0])).length) Slot.unset).toArray = ls at hl ⊢
  have hl : lv_has ls 3 [(0, .ref a_p0)] := hl
  refine W.nameQ (fun Q hQ => ?_)
  have B_115 : ∀ (k_47 : Int32 → Int32 → Int32 → (Nat → Int64) → Option (Int32 × Int32 × (Nat → Int64))) (hk_47 : ∀ (x1 : Int32) (madeState : Int32) (madeSign : Int32) (matrix : Nat → Int64) (H : Heap) (locs : List Loc) (ls : Array Slot), k_47 x1 madeState madeSign matrix = some u → va_P (dC, dI) cls [(a_p0, .inr (4, [.int thrown, .int modes, .int products, .ref a_upsOf, .ref a_downsOf, .ref a_numberOf, .int wayKind, .ref z_rowOf, .ref z_writes, .ref z_reads, .int isImageKnown, .int madeState, .int madeSign, .ref a_matrix, .ref z_other, .int newMany, .ref z_newUps, .ref z_newDowns, .ref z_newNumber, .ref z_found, .ref z_image, .ref z_imagePlace, .int imagePower, .int imageMany, .int imageWires])), (a_upsOf, .inl (cI, 60, .inl upsOf)), (a_downsOf, .inl (cI, 60, .inl downsOf)), (a_numberOf, .inl (cJ, 60, .inr (.inl numberOf))), (a_matrix, .inl (cJ, 65536, .inr (.inl matrix)))] H → va_D A [(a_p0, .inr (4, [.int thrown, .int modes, .int products, .ref a_upsOf, .ref a_downsOf, .ref a_numberOf, .int wayKind, .ref z_rowOf, .ref z_writes, .ref z_reads, .int isImageKnown, .int madeState, .int madeSign, .ref a_matrix, .ref z_other, .int newMany, .ref z_newUps, .ref z_newDowns, .ref z_newNumber, .ref z_found, .ref z_image, .ref z_imagePlace, .int imagePower, .int imageMany, .int imageWires])), (a_upsOf, .inl (cI, 60, .inl upsOf)), (a_downsOf, .inl (cI, 60, .inl downsOf)), (a_numberOf, .inl (cJ, 60, .inr (.inl numberOf))), (a_matrix, .inl (cJ, 65536, .inr (.inl matrix)))] → va_S A s.heap H locs → lv_has ls 3 [(0, .ref a_p0), (1, .int x1)] → W p l e (headSpec (Cond.code y_Mo_fillMatrix prog_6_method_11_code 3 none :: T0) rm_Mo_fillMatrix).room s m ([.ref a_p0] : List Value).toArray below meth c H locs 0 0 Q (F0 m 47 ls [])) (k_57 : Int32 → Int32 → Int32 → Int32 → (Nat → Int64) → Option (Int32 × Int32 × (Nat → Int64))) (hk_57 : ∀ (x1 : Int32) (x2 : Int32) (madeState : Int32) (madeSign : Int32) (matrix : Nat → Int64) (H : Heap) (locs : List Loc) (ls : Array Slot), k_57 x1 x2 madeState madeSign matrix = some u → va_P (dC, dI) cls [(a_p0, .inr (4, [.int thrown, .int modes, .int products, .ref a_upsOf, .ref a_downsOf, .ref a_numberOf, .int wayKind, .ref z_rowOf, .ref z_writes, .ref z_reads, .int isImageKnown, .int madeState, .int madeSign, .ref a_matrix, .ref z_other, .int newMany, .ref z_newUps, .ref z_newDowns, .ref z_newNumber, .ref z_found, .ref z_image, .ref z_imagePlace, .int imagePower, .int imageMany, .int imageWires])), (a_upsOf, .inl (cI, 60, .inl upsOf)), (a_downsOf, .inl (cI, 60, .inl downsOf)), (a_numberOf, .inl (cJ, 60, .inr (.inl numberOf))), (a_matrix, .inl (cJ, 65536, .inr (.inl matrix)))] H → va_D A [(a_p0, .inr (4, [.int thrown, .int modes, .int products, .ref a_upsOf, .ref a_downsOf, .ref a_numberOf, .int wayKind, .ref z_rowOf, .ref z_writes, .ref z_reads, .int isImageKnown, .int madeState, .int madeSign, .ref a_matrix, .ref z_other, .int newMany, .ref z_newUps, .ref z_newDowns, .ref z_newNumber, .ref z_found, .ref z_image, .ref z_imagePlace, .int imagePower, .int imageMany, .int imageWires])), (a_upsOf, .inl (cI, 60, .inl upsOf)), (a_downsOf, .inl (cI, 60, .inl downsOf)), (a_numberOf, .inl (cJ, 60, .inr (.inl numberOf))), (a_matrix, .inl (cJ, 65536, .inr (.inl matrix)))] → va_S A s.heap H locs → lv_has ls 3 [(0, .ref a_p0), (1, .int x1), (2, .int x2)] → W p l e (headSpec (Cond.code y_Mo_fillMatrix prog_6_method_11_code 3 none :: T0) rm_Mo_fillMatrix).room s m ([.ref a_p0] : List Value).toArray below meth c H locs 0 0 Q (F0 m 57 ls [])), ∀ (x1 : Int32) (x2 : Int32) (madeState : Int32) (madeSign : Int32) (matrix : Nat → Int64) (H : Heap) (locs : List Loc) (ls : Array Slot), b_Mo_fillMatrix_115 F k_47 k_57 modes products upsOf downsOf numberOf x1 x2 madeState madeSign matrix = some u → va_P (dC, dI) cls [(a_p0, .inr (4, [.int thrown, .int modes, .int products, .ref a_upsOf, .ref a_downsOf, .ref a_numberOf, .int wayKind, .ref z_rowOf, .ref z_writes, .ref z_reads, .int isImageKnown, .int madeState, .int madeSign, .ref a_matrix, .ref z_other, .int newMany, .ref z_newUps, .ref z_newDowns, .ref z_newNumber, .ref z_found, .ref z_image, .ref z_imagePlace, .int imagePower, .int imageMany, .int imageWires])), (a_upsOf, .inl (cI, 60, .inl upsOf)), (a_downsOf, .inl (cI, 60, .inl downsOf)), (a_numberOf, .inl (cJ, 60, .inr (.inl numberOf))), (a_matrix, .inl (cJ, 65536, .inr (.inl matrix)))] H → va_D A [(a_p0, .inr (4, [.int thrown, .int modes, .int products, .ref a_upsOf, .ref a_downsOf, .ref a_numberOf, .int wayKind, .ref z_rowOf, .ref z_writes, .ref z_reads, .int isImageKnown, .int madeState, .int madeSign, .ref a_matrix, .ref z_other, .int newMany, .ref z_newUps, .ref z_newDowns, .ref z_newNumber, .ref z_found, .ref z_image, .ref z_imagePlace, .int imagePower, .int imageMany, .int imageWires])), (a_upsOf, .inl (cI, 60, .inl upsOf)), (a_downsOf, .inl (cI, 60, .inl downsOf)), (a_numberOf, .inl (cJ, 60, .inr (.inl numberOf))), (a_matrix, .inl (cJ, 65536, .inr (.inl matrix)))] → va_S A s.heap H locs → lv_has ls 3 [(0, .ref a_p0), (1, .int x1), (2, .int x2)] → W p l e (headSpec (Cond.code y_Mo_fillMatrix prog_6_method_11_code 3 none :: T0) rm_Mo_fillMatrix).room s m ([.ref a_p0] : List Value).toArray below meth c H locs 0 0 Q (F0 m 115 ls []) := by
    intro k_47 hk_47 k_57 hk_57
    intro x1 x2 madeState madeSign matrix H locs ls hf hP hD hS hl
    rw [b_Mo_fillMatrix_115] at hf
    obtain ⟨x2_11, e_x2_11⟩ : ∃ y : Int32, y = x2 + 1 := ⟨_, rfl⟩
    replace hf := nm_eq e_x2_11 hf
    refine lv_iinc (v := x2_11) (lv' := [(2, .int x2_11), (0, .ref a_p0), (1, .int x1)]) hx hb d_Mo_fillMatrix_115 hl (k := 2) rfl (by rw [e_x2_11]; rfl) (by decide) rfl (fun ls hl => ?_)
    refine lv_goto (tgt := 57) hx hb d_Mo_fillMatrix_118 (by decide) ?_
    exact hk_57 x1 x2_11 madeState madeSign matrix H locs ls hf hP hD hS (lv_sub hl [1, 2, 0] rfl)
  have B_57 : ∀ (k_47 : Int32 → Int32 → Int32 → (Nat → Int64) → Option (Int32 × Int32 × (Nat → Int64))) (hk_47 : ∀ (x1 : Int32) (madeState : Int32) (madeSign : Int32) (matrix : Nat → Int64) (H : Heap) (locs : List Loc) (ls : Array Slot), k_47 x1 madeState madeSign matrix = some u → va_P (dC, dI) cls [(a_p0, .inr (4, [.int thrown, .int modes, .int products, .ref a_upsOf, .ref a_downsOf, .ref a_numberOf, .int wayKind, .ref z_rowOf, .ref z_writes, .ref z_reads, .int isImageKnown, .int madeState, .int madeSign, .ref a_matrix, .ref z_other, .int newMany, .ref z_newUps, .ref z_newDowns, .ref z_newNumber, .ref z_found, .ref z_image, .ref z_imagePlace, .int imagePower, .int imageMany, .int imageWires])), (a_upsOf, .inl (cI, 60, .inl upsOf)), (a_downsOf, .inl (cI, 60, .inl downsOf)), (a_numberOf, .inl (cJ, 60, .inr (.inl numberOf))), (a_matrix, .inl (cJ, 65536, .inr (.inl matrix)))] H → va_D A [(a_p0, .inr (4, [.int thrown, .int modes, .int products, .ref a_upsOf, .ref a_downsOf, .ref a_numberOf, .int wayKind, .ref z_rowOf, .ref z_writes, .ref z_reads, .int isImageKnown, .int madeState, .int madeSign, .ref a_matrix, .ref z_other, .int newMany, .ref z_newUps, .ref z_newDowns, .ref z_newNumber, .ref z_found, .ref z_image, .ref z_imagePlace, .int imagePower, .int imageMany, .int imageWires])), (a_upsOf, .inl (cI, 60, .inl upsOf)), (a_downsOf, .inl (cI, 60, .inl downsOf)), (a_numberOf, .inl (cJ, 60, .inr (.inl numberOf))), (a_matrix, .inl (cJ, 65536, .inr (.inl matrix)))] → va_S A s.heap H locs → lv_has ls 3 [(0, .ref a_p0), (1, .int x1)] → W p l e (headSpec (Cond.code y_Mo_fillMatrix prog_6_method_11_code 3 none :: T0) rm_Mo_fillMatrix).room s m ([.ref a_p0] : List Value).toArray below meth c H locs 0 0 Q (F0 m 47 ls [])), ∀ (n : Nat), ∀ (x1 : Int32) (x2 : Int32) (madeState : Int32) (madeSign : Int32) (matrix : Nat → Int64) (H : Heap) (locs : List Loc) (ls : Array Slot), b_Mo_fillMatrix_57 F k_47 modes products upsOf downsOf numberOf n x1 x2 madeState madeSign matrix = some u → va_P (dC, dI) cls [(a_p0, .inr (4, [.int thrown, .int modes, .int products, .ref a_upsOf, .ref a_downsOf, .ref a_numberOf, .int wayKind, .ref z_rowOf, .ref z_writes, .ref z_reads, .int isImageKnown, .int madeState, .int madeSign, .ref a_matrix, .ref z_other, .int newMany, .ref z_newUps, .ref z_newDowns, .ref z_newNumber, .ref z_found, .ref z_image, .ref z_imagePlace, .int imagePower, .int imageMany, .int imageWires])), (a_upsOf, .inl (cI, 60, .inl upsOf)), (a_downsOf, .inl (cI, 60, .inl downsOf)), (a_numberOf, .inl (cJ, 60, .inr (.inl numberOf))), (a_matrix, .inl (cJ, 65536, .inr (.inl matrix)))] H → va_D A [(a_p0, .inr (4, [.int thrown, .int modes, .int products, .ref a_upsOf, .ref a_downsOf, .ref a_numberOf, .int wayKind, .ref z_rowOf, .ref z_writes, .ref z_reads, .int isImageKnown, .int madeState, .int madeSign, .ref a_matrix, .ref z_other, .int newMany, .ref z_newUps, .ref z_newDowns, .ref z_newNumber, .ref z_found, .ref z_image, .ref z_imagePlace, .int imagePower, .int imageMany, .int imageWires])), (a_upsOf, .inl (cI, 60, .inl upsOf)), (a_downsOf, .inl (cI, 60, .inl downsOf)), (a_numberOf, .inl (cJ, 60, .inr (.inl numberOf))), (a_matrix, .inl (cJ, 65536, .inr (.inl matrix)))] → va_S A s.heap H locs → lv_has ls 3 [(0, .ref a_p0), (1, .int x1), (2, .int x2)] → W p l e (headSpec (Cond.code y_Mo_fillMatrix prog_6_method_11_code 3 none :: T0) rm_Mo_fillMatrix).room s m ([.ref a_p0] : List Value).toArray below meth c H locs 0 0 Q (F0 m 57 ls []) := by
    intro k_47 hk_47
    intro n
    induction n with
    | zero =>
      intro x1 x2 madeState madeSign matrix H locs ls hf hP hD hS hl
      exact no_fuel hf
    | succ n ih =>
      intro x1 x2 madeState madeSign matrix H locs ls hf hP hD hS hl
      rw [b_Mo_fillMatrix_57] at hf
      refine lv_iload_n hx hb d_Mo_fillMatrix_57 rfl (lv_at hl 2 rfl) ?_
      refine lv_aload_n hx hb d_Mo_fillMatrix_58 rfl (lv_at hl 0 rfl) ?_
      obtain ⟨u_4, h_u_4, hf⟩ := bd hf
      refine rd_i (rdV_run (As := []) (rest := [.int x2]) ⟨hx, hb, hml, hown, ht0⟩ (c_Mo_states l dC dI cI cJ a_p0 a_upsOf a_downsOf a_numberOf z_rowOf z_writes z_reads a_matrix z_other z_newUps z_newDowns z_newNumber z_found z_image z_imagePlace thrown modes products wayKind isImageKnown madeState madeSign newMany imagePower imageMany imageWires F u_4 h_u_4) (cwV 0 ht0 (gV m_442 m_444 (T0_pr (y := ⟨"FermionMapsModel", "states", "()I"⟩) (i := 4) rfl rfl) m_5 m_445) rfl rfl rfl (by decide +kernel) ⟨Nat.le_of_ble_eq_true rfl, Nat.le_of_ble_eq_true rfl⟩) hK hNW hP [0] rfl (ci := 4) (q0 := 0) rfl rfl rfl hl.1 rfl (Nat.le_of_ble_eq_true rfl) d_Mo_fillMatrix_59 ⟨Nat.zero_le _, Nat.zero_le _⟩) ?_
      refine lv_icmp_ge (tgt := 121) hx hb d_Mo_fillMatrix_62 (by decide) (fun c_5 => ?_) (fun c_5 => ?_)
      · replace hf := if_t c_5 hf
        obtain ⟨x1_6, e_x1_6⟩ : ∃ y : Int32, y = x1 + 1 := ⟨_, rfl⟩
        replace hf := nm_eq e_x1_6 hf
        refine lv_iinc (v := x1_6) (lv' := [(1, .int x1_6), (0, .ref a_p0), (2, .int x2)]) hx hb d_Mo_fillMatrix_121 hl (k := 1) rfl (by rw [e_x1_6]; rfl) (by decide) rfl (fun ls hl => ?_)
        refine lv_goto (tgt := 47) hx hb d_Mo_fillMatrix_124 (by decide) ?_
        exact hk_47 x1_6 madeState madeSign matrix H locs ls hf hP hD hS (lv_sub hl [1, 0] rfl)
      · replace hf := if_f c_5 hf
        refine lv_aload_n hx hb d_Mo_fillMatrix_65 rfl (lv_at hl 0 rfl) ?_
        refine lv_aload_n hx hb d_Mo_fillMatrix_66 rfl (lv_at hl 0 rfl) ?_
        refine va_get (D := (dC, dI)) (ci := 4) (v := .ref a_upsOf) (C := "FermionMapsModel") (T := F_Mo) (N := 25) hx hb ht0 i_Mo hown hK hP 0 rfl rfl 3 (by decide) (ht0 _ m_460) (fun _ h9 => h9) rfl d_Mo_fillMatrix_67 ?_
        refine lv_iload_n hx hb d_Mo_fillMatrix_70 rfl (lv_at hl 1 rfl) ?_
        obtain ⟨hi_7, hf⟩ := ckI_ok hf
        refine va_iald hx hb hK hP 1 0 rfl rfl hi_7 d_Mo_fillMatrix_71 ?_
        refine lv_aload_n hx hb d_Mo_fillMatrix_72 rfl (lv_at hl 0 rfl) ?_
        refine va_get (D := (dC, dI)) (ci := 4) (v := .ref a_downsOf) (C := "FermionMapsModel") (T := F_Mo) (N := 25) hx hb ht0 i_Mo hown hK hP 0 rfl rfl 4 (by decide) (ht0 _ m_461) (fun _ h9 => h9) rfl d_Mo_fillMatrix_73 ?_
        refine lv_iload_n hx hb d_Mo_fillMatrix_76 rfl (lv_at hl 1 rfl) ?_
        obtain ⟨hi_8, hf⟩ := ckI_ok hf
        refine va_iald hx hb hK hP 2 0 rfl rfl hi_8 d_Mo_fillMatrix_77 ?_
        refine lv_iload_n hx hb d_Mo_fillMatrix_78 rfl (lv_at hl 2 rfl) ?_
        obtain ⟨u_9, h_u_9, hf⟩ := bd hf
        refine wr_i (wr := [(a_upsOf, .inl (cI, 60, .inl upsOf)), (a_downsOf, .inl (cI, 60, .inl downsOf)), (a_numberOf, .inl (cJ, 60, .inr (.inl numberOf))), (a_matrix, .inl (cJ, 65536, .inr (.inl matrix)))]) (wrV_run (As := [.int (upsOf x1.toNatClampNeg), .int (downsOf x1.toNatClampNeg), .int x2]) (rest := []) ⟨hx, hb, hml, hown, ht0⟩ (c_Mo_make l dC dI cI cJ a_p0 a_upsOf a_downsOf a_numberOf z_rowOf z_writes z_reads a_matrix z_other z_newUps z_newDowns z_newNumber z_found z_image z_imagePlace H.size thrown modes products wayKind isImageKnown madeState madeSign newMany imagePower imageMany imageWires (upsOf x1.toNatClampNeg) (downsOf x1.toNatClampNeg) x2 F u_9 h_u_9) (cwV 3 ht0 (gV m_567 m_569 (T0_pr (y := ⟨"FermionMapsModel", "make", "(III)Z"⟩) (i := 11) rfl rfl) m_5 m_570) rfl rfl rfl (by decide +kernel) ⟨Nat.le_of_ble_eq_true rfl, Nat.le_of_ble_eq_true rfl⟩) hK hNW hP hD [0] rfl rfl (by decide) (ci := 4) (q0 := 0) rfl rfl rfl hl.1 rfl (Nat.le_of_ble_eq_true rfl) d_Mo_fillMatrix_79 ⟨Nat.zero_le _, Nat.zero_le _⟩) hP hD hS hA [0] [1, 2, 3, 4] rfl rfl (by decide) (by decide) (fun w1 H locs hw hP hD hS => ?_)
        obtain rfl := hw
        have hP : va_P (dC, dI) cls [(a_p0, .inr (4, [.int thrown, .int modes, .int products, .ref a_upsOf, .ref a_downsOf, .ref a_numberOf, .int wayKind, .ref z_rowOf, .ref z_writes, .ref z_reads, .int isImageKnown, .int u_9.2.1, .int u_9.2.2, .ref a_matrix, .ref z_other, .int newMany, .ref z_newUps, .ref z_newDowns, .ref z_newNumber, .ref z_found, .ref z_image, .ref z_imagePlace, .int imagePower, .int imageMany, .int imageWires])), (a_upsOf, .inl (cI, 60, .inl upsOf)), (a_downsOf, .inl (cI, 60, .inl downsOf)), (a_numberOf, .inl (cJ, 60, .inr (.inl numberOf))), (a_matrix, .inl (cJ, 65536, .inr (.inl matrix)))] H := hP.sub [4, 0, 1, 2, 3] rfl
        have hD : va_D A [(a_p0, .inr (4, [.int thrown, .int modes, .int products, .ref a_upsOf, .ref a_downsOf, .ref a_numberOf, .int wayKind, .ref z_rowOf, .ref z_writes, .ref z_reads, .int isImageKnown, .int u_9.2.1, .int u_9.2.2, .ref a_matrix, .ref z_other, .int newMany, .ref z_newUps, .ref z_newDowns, .ref z_newNumber, .ref z_found, .ref z_image, .ref z_imagePlace, .int imagePower, .int imageMany, .int imageWires])), (a_upsOf, .inl (cI, 60, .inl upsOf)), (a_downsOf, .inl (cI, 60, .inl downsOf)), (a_numberOf, .inl (cJ, 60, .inr (.inl numberOf))), (a_matrix, .inl (cJ, 65536, .inr (.inl matrix)))] := hD.sub [4, 0, 1, 2, 3] (by decide) rfl
        refine lv_if_eq (tgt := 115) hx hb d_Mo_fillMatrix_82 (by decide) (fun c_10 => ?_) (fun c_10 => ?_)
        · replace hf := if_t c_10 hf
          exact B_115 k_47 hk_47 (b_Mo_fillMatrix_57 F k_47 modes products upsOf downsOf numberOf n) ih x1 x2 u_9.2.1 u_9.2.2 matrix H locs ls hf hP hD hS (lv_sub hl [0, 1, 2] rfl)
        · replace hf := if_f c_10 hf
          refine lv_aload_n hx hb d_Mo_fillMatrix_85 rfl (lv_at hl 0 rfl) ?_
          refine va_get (D := (dC, dI)) (ci := 4) (v := .ref a_matrix) (C := "FermionMapsModel") (T := F_Mo) (N := 25) hx hb ht0 i_Mo hown hK hP 0 rfl rfl 13 (by decide) (ht0 _ m_470) (fun _ h9 => h9) rfl d_Mo_fillMatrix_86 ?_
          refine lv_sipush (v := 256) hx hb d_Mo_fillMatrix_89 (by decide) ?_
          refine lv_aload_n hx hb d_Mo_fillMatrix_92 rfl (lv_at hl 0 rfl) ?_
          refine va_get (D := (dC, dI)) (ci := 4) (v := .int u_9.2.1) (C := "FermionMapsModel") (T := F_Mo) (N := 25) hx hb ht0 i_Mo hown hK hP 0 rfl rfl 11 (by decide) (ht0 _ m_468) (fun _ h9 => h9) rfl d_Mo_fillMatrix_93 ?_
          refine lv_imul hx hb d_Mo_fillMatrix_96 ?_
          refine lv_iload_n hx hb d_Mo_fillMatrix_97 rfl (lv_at hl 2 rfl) ?_
          refine lv_iadd hx hb d_Mo_fillMatrix_98 ?_
          refine lv_topi (fun t_12 e_t_12 => ?_)
          replace hf := nm_eq e_t_12 hf
          refine lv_dup2_11 hx hb d_Mo_fillMatrix_99 rfl rfl ?_
          obtain ⟨hi_13, hf⟩ := ckI_ok hf
          refine va_lald hx hb hK hP 4 1 rfl rfl hi_13 d_Mo_fillMatrix_100 ?_
          refine lv_aload_n hx hb d_Mo_fillMatrix_101 rfl (lv_at hl 0 rfl) ?_
          refine va_get (D := (dC, dI)) (ci := 4) (v := .int u_9.2.2) (C := "FermionMapsModel") (T := F_Mo) (N := 25) hx hb ht0 i_Mo hown hK hP 0 rfl rfl 12 (by decide) (ht0 _ m_469) (fun _ h9 => h9) rfl d_Mo_fillMatrix_102 ?_
          refine lv_i2l (v := u_9.2.2.toInt64) hx hb d_Mo_fillMatrix_105 rfl ?_
          refine lv_aload_n hx hb d_Mo_fillMatrix_106 rfl (lv_at hl 0 rfl) ?_
          refine va_get (D := (dC, dI)) (ci := 4) (v := .ref a_numberOf) (C := "FermionMapsModel") (T := F_Mo) (N := 25) hx hb ht0 i_Mo hown hK hP 0 rfl rfl 5 (by decide) (ht0 _ m_462) (fun _ h9 => h9) rfl d_Mo_fillMatrix_107 ?_
          refine lv_iload_n hx hb d_Mo_fillMatrix_110 rfl (lv_at hl 1 rfl) ?_
          obtain ⟨hi_14, hf⟩ := ckI_ok hf
          refine va_lald hx hb hK hP 3 1 rfl rfl hi_14 d_Mo_fillMatrix_111 ?_
          refine lv_lmul hx hb d_Mo_fillMatrix_112 ?_
          refine lv_ladd hx hb d_Mo_fillMatrix_113 ?_
          refine lv_topl (fun t_15 e_t_15 => ?_)
          replace hf := nm_eq e_t_15 hf
          obtain ⟨hi_16, hf⟩ := ckI_ok hf
          refine va_last hx hb hK hP hD hS 4 1 rfl rfl hi_16 d_Mo_fillMatrix_114 (fun H locs hP hD hS => ?_)
          have hP : va_P (dC, dI) cls [(a_p0, .inr (4, [.int thrown, .int modes, .int products, .ref a_upsOf, .ref a_downsOf, .ref a_numberOf, .int wayKind, .ref z_rowOf, .ref z_writes, .ref z_reads, .int isImageKnown, .int u_9.2.1, .int u_9.2.2, .ref a_matrix, .ref z_other, .int newMany, .ref z_newUps, .ref z_newDowns, .ref z_newNumber, .ref z_found, .ref z_image, .ref z_imagePlace, .int imagePower, .int imageMany, .int imageWires])), (a_upsOf, .inl (cI, 60, .inl upsOf)), (a_downsOf, .inl (cI, 60, .inl downsOf)), (a_numberOf, .inl (cJ, 60, .inr (.inl numberOf))), (a_matrix, .inl (cJ, 65536, .inr (.inl (vp_updL matrix t_12.toNatClampNeg t_15))))] H := hP
          have hD : va_D A [(a_p0, .inr (4, [.int thrown, .int modes, .int products, .ref a_upsOf, .ref a_downsOf, .ref a_numberOf, .int wayKind, .ref z_rowOf, .ref z_writes, .ref z_reads, .int isImageKnown, .int u_9.2.1, .int u_9.2.2, .ref a_matrix, .ref z_other, .int newMany, .ref z_newUps, .ref z_newDowns, .ref z_newNumber, .ref z_found, .ref z_image, .ref z_imagePlace, .int imagePower, .int imageMany, .int imageWires])), (a_upsOf, .inl (cI, 60, .inl upsOf)), (a_downsOf, .inl (cI, 60, .inl downsOf)), (a_numberOf, .inl (cJ, 60, .inr (.inl numberOf))), (a_matrix, .inl (cJ, 65536, .inr (.inl (vp_updL matrix t_12.toNatClampNeg t_15))))] := hD
          exact B_115 k_47 hk_47 (b_Mo_fillMatrix_57 F k_47 modes products upsOf downsOf numberOf n) ih x1 x2 u_9.2.1 u_9.2.2 (vp_updL matrix t_12.toNatClampNeg t_15) H locs ls hf hP hD hS (lv_sub hl [0, 1, 2] rfl)
  have B_47 : ∀ (n : Nat), ∀ (x1 : Int32) (madeState : Int32) (madeSign : Int32) (matrix : Nat → Int64) (H : Heap) (locs : List Loc) (ls : Array Slot), b_Mo_fillMatrix_47 F modes products upsOf downsOf numberOf n x1 madeState madeSign matrix = some u → va_P (dC, dI) cls [(a_p0, .inr (4, [.int thrown, .int modes, .int products, .ref a_upsOf, .ref a_downsOf, .ref a_numberOf, .int wayKind, .ref z_rowOf, .ref z_writes, .ref z_reads, .int isImageKnown, .int madeState, .int madeSign, .ref a_matrix, .ref z_other, .int newMany, .ref z_newUps, .ref z_newDowns, .ref z_newNumber, .ref z_found, .ref z_image, .ref z_imagePlace, .int imagePower, .int imageMany, .int imageWires])), (a_upsOf, .inl (cI, 60, .inl upsOf)), (a_downsOf, .inl (cI, 60, .inl downsOf)), (a_numberOf, .inl (cJ, 60, .inr (.inl numberOf))), (a_matrix, .inl (cJ, 65536, .inr (.inl matrix)))] H → va_D A [(a_p0, .inr (4, [.int thrown, .int modes, .int products, .ref a_upsOf, .ref a_downsOf, .ref a_numberOf, .int wayKind, .ref z_rowOf, .ref z_writes, .ref z_reads, .int isImageKnown, .int madeState, .int madeSign, .ref a_matrix, .ref z_other, .int newMany, .ref z_newUps, .ref z_newDowns, .ref z_newNumber, .ref z_found, .ref z_image, .ref z_imagePlace, .int imagePower, .int imageMany, .int imageWires])), (a_upsOf, .inl (cI, 60, .inl upsOf)), (a_downsOf, .inl (cI, 60, .inl downsOf)), (a_numberOf, .inl (cJ, 60, .inr (.inl numberOf))), (a_matrix, .inl (cJ, 65536, .inr (.inl matrix)))] → va_S A s.heap H locs → lv_has ls 3 [(0, .ref a_p0), (1, .int x1)] → W p l e (headSpec (Cond.code y_Mo_fillMatrix prog_6_method_11_code 3 none :: T0) rm_Mo_fillMatrix).room s m ([.ref a_p0] : List Value).toArray below meth c H locs 0 0 Q (F0 m 47 ls []) := by
    intro n
    induction n with
    | zero =>
      intro x1 madeState madeSign matrix H locs ls hf hP hD hS hl
      exact no_fuel hf
    | succ n ih =>
      intro x1 madeState madeSign matrix H locs ls hf hP hD hS hl
      rw [b_Mo_fillMatrix_47] at hf
      refine lv_iload_n hx hb d_Mo_fillMatrix_47 rfl (lv_at hl 1 rfl) ?_
      refine lv_aload_n hx hb d_Mo_fillMatrix_48 rfl (lv_at hl 0 rfl) ?_
      refine va_get (D := (dC, dI)) (ci := 4) (v := .int products) (C := "FermionMapsModel") (T := F_Mo) (N := 25) hx hb ht0 i_Mo hown hK hP 0 rfl rfl 2 (by decide) (ht0 _ m_459) (fun _ h9 => h9) rfl d_Mo_fillMatrix_49 ?_
      refine lv_icmp_ge (tgt := 127) hx hb d_Mo_fillMatrix_52 (by decide) (fun c_3 => ?_) (fun c_3 => ?_)
      · replace hf := if_t c_3 hf
        have hu := Option.some.inj hf
        subst hu
        exact rw_v hQ rfl hP hD hK hS hx hb hr hlocks d_Mo_fillMatrix_127
      · replace hf := if_f c_3 hf
        refine lv_iconst (v := 0) hx hb d_Mo_fillMatrix_55 (by decide) ?_
        refine lv_istore_n (lv' := [(2, .int 0), (0, .ref a_p0), (1, .int x1)]) hx hb d_Mo_fillMatrix_56 rfl hl (by decide) rfl (fun ls hl => ?_)
        exact B_57 (b_Mo_fillMatrix_47 F modes products upsOf downsOf numberOf n) ih F x1 0 madeState madeSign matrix H locs ls hf hP hD hS (lv_sub hl [1, 2, 0] rfl)
  have B_12 : ∀ (k_2 : Int32 → Int32 → Int32 → (Nat → Int64) → Option (Int32 × Int32 × (Nat → Int64))) (hk_2 : ∀ (x1 : Int32) (madeState : Int32) (madeSign : Int32) (matrix : Nat → Int64) (H : Heap) (locs : List Loc) (ls : Array Slot), k_2 x1 madeState madeSign matrix = some u → va_P (dC, dI) cls [(a_p0, .inr (4, [.int thrown, .int modes, .int products, .ref a_upsOf, .ref a_downsOf, .ref a_numberOf, .int wayKind, .ref z_rowOf, .ref z_writes, .ref z_reads, .int isImageKnown, .int madeState, .int madeSign, .ref a_matrix, .ref z_other, .int newMany, .ref z_newUps, .ref z_newDowns, .ref z_newNumber, .ref z_found, .ref z_image, .ref z_imagePlace, .int imagePower, .int imageMany, .int imageWires])), (a_upsOf, .inl (cI, 60, .inl upsOf)), (a_downsOf, .inl (cI, 60, .inl downsOf)), (a_numberOf, .inl (cJ, 60, .inr (.inl numberOf))), (a_matrix, .inl (cJ, 65536, .inr (.inl matrix)))] H → va_D A [(a_p0, .inr (4, [.int thrown, .int modes, .int products, .ref a_upsOf, .ref a_downsOf, .ref a_numberOf, .int wayKind, .ref z_rowOf, .ref z_writes, .ref z_reads, .int isImageKnown, .int madeState, .int madeSign, .ref a_matrix, .ref z_other, .int newMany, .ref z_newUps, .ref z_newDowns, .ref z_newNumber, .ref z_found, .ref z_image, .ref z_imagePlace, .int imagePower, .int imageMany, .int imageWires])), (a_upsOf, .inl (cI, 60, .inl upsOf)), (a_downsOf, .inl (cI, 60, .inl downsOf)), (a_numberOf, .inl (cJ, 60, .inr (.inl numberOf))), (a_matrix, .inl (cJ, 65536, .inr (.inl matrix)))] → va_S A s.heap H locs → lv_has ls 3 [(0, .ref a_p0), (1, .int x1)] → W p l e (headSpec (Cond.code y_Mo_fillMatrix prog_6_method_11_code 3 none :: T0) rm_Mo_fillMatrix).room s m ([.ref a_p0] : List Value).toArray below meth c H locs 0 0 Q (F0 m 2 ls [])), ∀ (n : Nat), ∀ (x1 : Int32) (x2 : Int32) (madeState : Int32) (madeSign : Int32) (matrix : Nat → Int64) (H : Heap) (locs : List Loc) (ls : Array Slot), b_Mo_fillMatrix_12 F k_2 modes products upsOf downsOf numberOf n x1 x2 madeState madeSign matrix = some u → va_P (dC, dI) cls [(a_p0, .inr (4, [.int thrown, .int modes, .int products, .ref a_upsOf, .ref a_downsOf, .ref a_numberOf, .int wayKind, .ref z_rowOf, .ref z_writes, .ref z_reads, .int isImageKnown, .int madeState, .int madeSign, .ref a_matrix, .ref z_other, .int newMany, .ref z_newUps, .ref z_newDowns, .ref z_newNumber, .ref z_found, .ref z_image, .ref z_imagePlace, .int imagePower, .int imageMany, .int imageWires])), (a_upsOf, .inl (cI, 60, .inl upsOf)), (a_downsOf, .inl (cI, 60, .inl downsOf)), (a_numberOf, .inl (cJ, 60, .inr (.inl numberOf))), (a_matrix, .inl (cJ, 65536, .inr (.inl matrix)))] H → va_D A [(a_p0, .inr (4, [.int thrown, .int modes, .int products, .ref a_upsOf, .ref a_downsOf, .ref a_numberOf, .int wayKind, .ref z_rowOf, .ref z_writes, .ref z_reads, .int isImageKnown, .int madeState, .int madeSign, .ref a_matrix, .ref z_other, .int newMany, .ref z_newUps, .ref z_newDowns, .ref z_newNumber, .ref z_found, .ref z_image, .ref z_imagePlace, .int imagePower, .int imageMany, .int imageWires])), (a_upsOf, .inl (cI, 60, .inl upsOf)), (a_downsOf, .inl (cI, 60, .inl downsOf)), (a_numberOf, .inl (cJ, 60, .inr (.inl numberOf))), (a_matrix, .inl (cJ, 65536, .inr (.inl matrix)))] → va_S A s.heap H locs → lv_has ls 3 [(0, .ref a_p0), (1, .int x1), (2, .int x2)] → W p l e (headSpec (Cond.code y_Mo_fillMatrix prog_6_method_11_code 3 none :: T0) rm_Mo_fillMatrix).room s m ([.ref a_p0] : List Value).toArray below meth c H locs 0 0 Q (F0 m 12 ls []) := by
    intro k_2 hk_2
    intro n
    induction n with
    | zero =>
      intro x1 x2 madeState madeSign matrix H locs ls hf hP hD hS hl
      exact no_fuel hf
    | succ n ih =>
      intro x1 x2 madeState madeSign matrix H locs ls hf hP hD hS hl
      rw [b_Mo_fillMatrix_12] at hf
      refine lv_iload_n hx hb d_Mo_fillMatrix_12 rfl (lv_at hl 2 rfl) ?_
      refine lv_aload_n hx hb d_Mo_fillMatrix_13 rfl (lv_at hl 0 rfl) ?_
      obtain ⟨u_17, h_u_17, hf⟩ := bd hf
      refine rd_i (rdV_run (As := []) (rest := [.int x2]) ⟨hx, hb, hml, hown, ht0⟩ (c_Mo_states l dC dI cI cJ a_p0 a_upsOf a_downsOf a_numberOf z_rowOf z_writes z_reads a_matrix z_other z_newUps z_newDowns z_newNumber z_found z_image z_imagePlace thrown modes products wayKind isImageKnown madeState madeSign newMany imagePower imageMany imageWires F u_17 h_u_17) (cwV 0 ht0 (gV m_442 m_444 (T0_pr (y := ⟨"FermionMapsModel", "states", "()I"⟩) (i := 4) rfl rfl) m_5 m_445) rfl rfl rfl (by decide +kernel) ⟨Nat.le_of_ble_eq_true rfl, Nat.le_of_ble_eq_true rfl⟩) hK hNW hP [0] rfl (ci := 4) (q0 := 0) rfl rfl rfl hl.1 rfl (Nat.le_of_ble_eq_true rfl) d_Mo_fillMatrix_14 ⟨Nat.zero_le _, Nat.zero_le _⟩) ?_
      refine lv_icmp_ge (tgt := 39) hx hb d_Mo_fillMatrix_17 (by decide) (fun c_18 => ?_) (fun c_18 => ?_)
      · replace hf := if_t c_18 hf
        obtain ⟨x1_19, e_x1_19⟩ : ∃ y : Int32, y = x1 + 1 := ⟨_, rfl⟩
        replace hf := nm_eq e_x1_19 hf
        refine lv_iinc (v := x1_19) (lv' := [(1, .int x1_19), (0, .ref a_p0), (2, .int x2)]) hx hb d_Mo_fillMatrix_39 hl (k := 1) rfl (by rw [e_x1_19]; rfl) (by decide) rfl (fun ls hl => ?_)
        refine lv_goto (tgt := 2) hx hb d_Mo_fillMatrix_42 (by decide) ?_
        exact hk_2 x1_19 madeState madeSign matrix H locs ls hf hP hD hS (lv_sub hl [1, 0] rfl)
      · replace hf := if_f c_18 hf
        refine lv_aload_n hx hb d_Mo_fillMatrix_20 rfl (lv_at hl 0 rfl) ?_
        refine va_get (D := (dC, dI)) (ci := 4) (v := .ref a_matrix) (C := "FermionMapsModel") (T := F_Mo) (N := 25) hx hb ht0 i_Mo hown hK hP 0 rfl rfl 13 (by decide) (ht0 _ m_470) (fun _ h9 => h9) rfl d_Mo_fillMatrix_21 ?_
        refine lv_sipush (v := 256) hx hb d_Mo_fillMatrix_24 (by decide) ?_
        refine lv_iload_n hx hb d_Mo_fillMatrix_27 rfl (lv_at hl 1 rfl) ?_
        refine lv_imul hx hb d_Mo_fillMatrix_28 ?_
        refine lv_iload_n hx hb d_Mo_fillMatrix_29 rfl (lv_at hl 2 rfl) ?_
        refine lv_iadd hx hb d_Mo_fillMatrix_30 ?_
        refine lv_lconst (v := 0) hx hb d_Mo_fillMatrix_31 (by decide) ?_
        obtain ⟨hi_20, hf⟩ := ckI_ok hf
        refine va_last hx hb hK hP hD hS 4 1 rfl rfl hi_20 d_Mo_fillMatrix_32 (fun H locs hP hD hS => ?_)
        have hP : va_P (dC, dI) cls [(a_p0, .inr (4, [.int thrown, .int modes, .int products, .ref a_upsOf, .ref a_downsOf, .ref a_numberOf, .int wayKind, .ref z_rowOf, .ref z_writes, .ref z_reads, .int isImageKnown, .int madeState, .int madeSign, .ref a_matrix, .ref z_other, .int newMany, .ref z_newUps, .ref z_newDowns, .ref z_newNumber, .ref z_found, .ref z_image, .ref z_imagePlace, .int imagePower, .int imageMany, .int imageWires])), (a_upsOf, .inl (cI, 60, .inl upsOf)), (a_downsOf, .inl (cI, 60, .inl downsOf)), (a_numberOf, .inl (cJ, 60, .inr (.inl numberOf))), (a_matrix, .inl (cJ, 65536, .inr (.inl (vp_updL matrix ((256 * x1) + x2).toNatClampNeg 0))))] H := hP
        have hD : va_D A [(a_p0, .inr (4, [.int thrown, .int modes, .int products, .ref a_upsOf, .ref a_downsOf, .ref a_numberOf, .int wayKind, .ref z_rowOf, .ref z_writes, .ref z_reads, .int isImageKnown, .int madeState, .int madeSign, .ref a_matrix, .ref z_other, .int newMany, .ref z_newUps, .ref z_newDowns, .ref z_newNumber, .ref z_found, .ref z_image, .ref z_imagePlace, .int imagePower, .int imageMany, .int imageWires])), (a_upsOf, .inl (cI, 60, .inl upsOf)), (a_downsOf, .inl (cI, 60, .inl downsOf)), (a_numberOf, .inl (cJ, 60, .inr (.inl numberOf))), (a_matrix, .inl (cJ, 65536, .inr (.inl (vp_updL matrix ((256 * x1) + x2).toNatClampNeg 0))))] := hD
        obtain ⟨x2_21, e_x2_21⟩ : ∃ y : Int32, y = x2 + 1 := ⟨_, rfl⟩
        replace hf := nm_eq e_x2_21 hf
        refine lv_iinc (v := x2_21) (lv' := [(2, .int x2_21), (0, .ref a_p0), (1, .int x1)]) hx hb d_Mo_fillMatrix_33 hl (k := 2) rfl (by rw [e_x2_21]; rfl) (by decide) rfl (fun ls hl => ?_)
        refine lv_goto (tgt := 12) hx hb d_Mo_fillMatrix_36 (by decide) ?_
        exact ih x1 x2_21 madeState madeSign (vp_updL matrix ((256 * x1) + x2).toNatClampNeg 0) H locs ls hf hP hD hS (lv_sub hl [1, 2, 0] rfl)
  have B_2 : ∀ (n : Nat), ∀ (x1 : Int32) (madeState : Int32) (madeSign : Int32) (matrix : Nat → Int64) (H : Heap) (locs : List Loc) (ls : Array Slot), b_Mo_fillMatrix_2 F modes products upsOf downsOf numberOf n x1 madeState madeSign matrix = some u → va_P (dC, dI) cls [(a_p0, .inr (4, [.int thrown, .int modes, .int products, .ref a_upsOf, .ref a_downsOf, .ref a_numberOf, .int wayKind, .ref z_rowOf, .ref z_writes, .ref z_reads, .int isImageKnown, .int madeState, .int madeSign, .ref a_matrix, .ref z_other, .int newMany, .ref z_newUps, .ref z_newDowns, .ref z_newNumber, .ref z_found, .ref z_image, .ref z_imagePlace, .int imagePower, .int imageMany, .int imageWires])), (a_upsOf, .inl (cI, 60, .inl upsOf)), (a_downsOf, .inl (cI, 60, .inl downsOf)), (a_numberOf, .inl (cJ, 60, .inr (.inl numberOf))), (a_matrix, .inl (cJ, 65536, .inr (.inl matrix)))] H → va_D A [(a_p0, .inr (4, [.int thrown, .int modes, .int products, .ref a_upsOf, .ref a_downsOf, .ref a_numberOf, .int wayKind, .ref z_rowOf, .ref z_writes, .ref z_reads, .int isImageKnown, .int madeState, .int madeSign, .ref a_matrix, .ref z_other, .int newMany, .ref z_newUps, .ref z_newDowns, .ref z_newNumber, .ref z_found, .ref z_image, .ref z_imagePlace, .int imagePower, .int imageMany, .int imageWires])), (a_upsOf, .inl (cI, 60, .inl upsOf)), (a_downsOf, .inl (cI, 60, .inl downsOf)), (a_numberOf, .inl (cJ, 60, .inr (.inl numberOf))), (a_matrix, .inl (cJ, 65536, .inr (.inl matrix)))] → va_S A s.heap H locs → lv_has ls 3 [(0, .ref a_p0), (1, .int x1)] → W p l e (headSpec (Cond.code y_Mo_fillMatrix prog_6_method_11_code 3 none :: T0) rm_Mo_fillMatrix).room s m ([.ref a_p0] : List Value).toArray below meth c H locs 0 0 Q (F0 m 2 ls []) := by
    intro n
    induction n with
    | zero =>
      intro x1 madeState madeSign matrix H locs ls hf hP hD hS hl
      exact no_fuel hf
    | succ n ih =>
      intro x1 madeState madeSign matrix H locs ls hf hP hD hS hl
      rw [b_Mo_fillMatrix_2] at hf
      refine lv_iload_n hx hb d_Mo_fillMatrix_2 rfl (lv_at hl 1 rfl) ?_
      refine lv_aload_n hx hb d_Mo_fillMatrix_3 rfl (lv_at hl 0 rfl) ?_
      obtain ⟨u_1, h_u_1, hf⟩ := bd hf
      refine rd_i (rdV_run (As := []) (rest := [.int x1]) ⟨hx, hb, hml, hown, ht0⟩ (c_Mo_states l dC dI cI cJ a_p0 a_upsOf a_downsOf a_numberOf z_rowOf z_writes z_reads a_matrix z_other z_newUps z_newDowns z_newNumber z_found z_image z_imagePlace thrown modes products wayKind isImageKnown madeState madeSign newMany imagePower imageMany imageWires F u_1 h_u_1) (cwV 0 ht0 (gV m_442 m_444 (T0_pr (y := ⟨"FermionMapsModel", "states", "()I"⟩) (i := 4) rfl rfl) m_5 m_445) rfl rfl rfl (by decide +kernel) ⟨Nat.le_of_ble_eq_true rfl, Nat.le_of_ble_eq_true rfl⟩) hK hNW hP [0] rfl (ci := 4) (q0 := 0) rfl rfl rfl hl.1 rfl (Nat.le_of_ble_eq_true rfl) d_Mo_fillMatrix_4 ⟨Nat.zero_le _, Nat.zero_le _⟩) ?_
      refine lv_icmp_ge (tgt := 45) hx hb d_Mo_fillMatrix_7 (by decide) (fun c_2 => ?_) (fun c_2 => ?_)
      · replace hf := if_t c_2 hf
        refine lv_iconst (v := 0) hx hb d_Mo_fillMatrix_45 (by decide) ?_
        refine lv_istore_n (lv' := [(1, .int 0), (0, .ref a_p0)]) hx hb d_Mo_fillMatrix_46 rfl hl (by decide) rfl (fun ls hl => ?_)
        exact B_47 F 0 madeState madeSign matrix H locs ls hf hP hD hS (lv_sub hl [1, 0] rfl)
      · replace hf := if_f c_2 hf
        refine lv_iconst (v := 0) hx hb d_Mo_fillMatrix_10 (by decide) ?_
        refine lv_istore_n (lv' := [(2, .int 0), (0, .ref a_p0), (1, .int x1)]) hx hb d_Mo_fillMatrix_11 rfl hl (by decide) rfl (fun ls hl => ?_)
        exact B_12 (b_Mo_fillMatrix_2 F modes products upsOf downsOf numberOf n) ih F x1 0 madeState madeSign matrix H locs ls hf hP hD hS (lv_sub hl [1, 2, 0] rfl)
  rw [f_Mo_fillMatrix] at hf
  refine lv_iconst (v := 0) hx hb d_Mo_fillMatrix_0 (by decide) ?_
  refine lv_istore_n (lv' := [(1, .int 0), (0, .ref a_p0)]) hx hb d_Mo_fillMatrix_1 rfl hl (by decide) rfl (fun ls hl => ?_)
  exact B_2 F 0 madeState madeSign matrix s.heap [] ls hf hP hD hS (lv_sub hl [1, 0] rfl)

/-! FermionMapsModel.multiply(IZZ)V -/
def b_Mo_multiply_189 (F : Nat) (k_54 : Int32 → Int32 → Int32 → Int32 → Int32 → Int32 → (Nat → Int64) → Option (Int32 × Int32 × (Nat → Int64))) (modes : Int32) (matrix : Nat → Int64) (x1 : Int32) (x2 : Int32) (x3 : Int32) (x4 : Int32) (madeState : Int32) (madeSign : Int32) (other : Nat → Int64) : Option (Int32 × Int32 × (Nat → Int64)) :=
  nm (x4 + 1 : Int32) fun x4_9 =>
  k_54 x1 x2 x3 x4_9 madeState madeSign other
def b_Mo_multiply_183 (F : Nat) (k_54 : Int32 → Int32 → Int32 → Int32 → Int32 → Int32 → (Nat → Int64) → Option (Int32 × Int32 × (Nat → Int64))) (k_89 : Int32 → Int32 → Int32 → Int32 → Int32 → Int32 → Int32 → (Nat → Int64) → Option (Int32 × Int32 × (Nat → Int64))) (modes : Int32) (matrix : Nat → Int64) (x1 : Int32) (x2 : Int32) (x3 : Int32) (x4 : Int32) (x5 : Int32) (madeState : Int32) (madeSign : Int32) (other : Nat → Int64) : Option (Int32 × Int32 × (Nat → Int64)) :=
  nm (x5 + 1 : Int32) fun x5_17 =>
  k_89 x1 x2 x3 x4 x5_17 madeState madeSign other
def b_Mo_multiply_89 (F : Nat) (k_54 : Int32 → Int32 → Int32 → Int32 → Int32 → Int32 → (Nat → Int64) → Option (Int32 × Int32 × (Nat → Int64))) (modes : Int32) (matrix : Nat → Int64) : Nat → Int32 → Int32 → Int32 → Int32 → Int32 → Int32 → Int32 → (Nat → Int64) → Option (Int32 × Int32 × (Nat → Int64))
  | 0, _, _, _, _, _, _, _, _ => none
  | n + 1, x1, x2, x3, x4, x5, madeState, madeSign, other =>
    (f_Mo_states F modes).bind fun u_7 =>
    if u_7 ≤ x5 then
      b_Mo_multiply_189 F k_54 modes matrix x1 x2 x3 x4 madeState madeSign other
    else
      if x3 = 0 then
        nm (((256 * x5) + x4) : Int32) fun t_11 =>
        ckI t_11 65536 <|
        nm (((256 * x5) + madeState) : Int32) fun t_13 =>
        ckI t_13 65536 <|
        nm (((other t_11.toNatClampNeg) + ((madeSign.toInt64) * (matrix t_13.toNatClampNeg))) : Int64) fun t_15 =>
        ckI t_11 65536 <|
        b_Mo_multiply_183 F k_54 (b_Mo_multiply_89 F k_54 modes matrix n) modes matrix x1 x2 x3 x4 x5 madeState madeSign (vp_updL other t_11.toNatClampNeg t_15)
      else
        nm (((256 * madeState) + x5) : Int32) fun t_18 =>
        ckI t_18 65536 <|
        nm (((256 * x4) + x5) : Int32) fun t_20 =>
        ckI t_20 65536 <|
        nm (((other t_18.toNatClampNeg) + ((madeSign.toInt64) * (matrix t_20.toNatClampNeg))) : Int64) fun t_22 =>
        ckI t_18 65536 <|
        b_Mo_multiply_183 F k_54 (b_Mo_multiply_89 F k_54 modes matrix n) modes matrix x1 x2 x3 x4 x5 madeState madeSign (vp_updL other t_18.toNatClampNeg t_22)
def b_Mo_multiply_54 (F : Nat) (modes : Int32) (matrix : Nat → Int64) : Nat → Int32 → Int32 → Int32 → Int32 → Int32 → Int32 → (Nat → Int64) → Option (Int32 × Int32 × (Nat → Int64))
  | 0, _, _, _, _, _, _, _ => none
  | n + 1, x1, x2, x3, x4, madeState, madeSign, other =>
    (f_Mo_states F modes).bind fun u_3 =>
    if u_3 ≤ x4 then
      some (madeState, madeSign, other)
    else
      (f_Mo_climb F x4 1 x1 x2).bind fun u_5 =>
      if u_5.1 = 0 then
        b_Mo_multiply_189 F (b_Mo_multiply_54 F modes matrix n) modes matrix x1 x2 x3 x4 u_5.2.1 u_5.2.2 other
      else
        b_Mo_multiply_89 F (b_Mo_multiply_54 F modes matrix n) modes matrix F x1 x2 x3 x4 0 u_5.2.1 u_5.2.2 other
def b_Mo_multiply_15 (F : Nat) (k_3 : Int32 → Int32 → Int32 → Int32 → Int32 → Int32 → (Nat → Int64) → Option (Int32 × Int32 × (Nat → Int64))) (modes : Int32) (matrix : Nat → Int64) : Nat → Int32 → Int32 → Int32 → Int32 → Int32 → Int32 → Int32 → (Nat → Int64) → Option (Int32 × Int32 × (Nat → Int64))
  | 0, _, _, _, _, _, _, _, _ => none
  | n + 1, x1, x2, x3, x4, x5, madeState, madeSign, other =>
    (f_Mo_states F modes).bind fun u_24 =>
    if u_24 ≤ x5 then
      nm (x4 + 1 : Int32) fun x4_26 =>
      k_3 x1 x2 x3 x4_26 madeState madeSign other
    else
      ckI ((256 * x4) + x5) 65536 <|
      nm (x5 + 1 : Int32) fun x5_28 =>
      b_Mo_multiply_15 F k_3 modes matrix n x1 x2 x3 x4 x5_28 madeState madeSign (vp_updL other ((256 * x4) + x5).toNatClampNeg 0)
def b_Mo_multiply_3 (F : Nat) (modes : Int32) (matrix : Nat → Int64) : Nat → Int32 → Int32 → Int32 → Int32 → Int32 → Int32 → (Nat → Int64) → Option (Int32 × Int32 × (Nat → Int64))
  | 0, _, _, _, _, _, _, _ => none
  | n + 1, x1, x2, x3, x4, madeState, madeSign, other =>
    (f_Mo_states F modes).bind fun u_1 =>
    if u_1 ≤ x4 then
      b_Mo_multiply_54 F modes matrix F x1 x2 x3 0 madeState madeSign other
    else
      b_Mo_multiply_15 F (b_Mo_multiply_3 F modes matrix n) modes matrix F x1 x2 x3 x4 0 madeState madeSign other
def f_Mo_multiply (F : Nat) (modes : Int32) (madeState : Int32) (madeSign : Int32) (matrix : Nat → Int64) (other : Nat → Int64) (p1 : Int32) (p2 : Int32) (p3 : Int32) : Option (Int32 × Int32 × (Nat → Int64)) :=
  b_Mo_multiply_3 F modes matrix F p1 p2 p3 0 madeState madeSign other
abbrev rm_Mo_multiply : Room := { frames := 2, cells := 0, slots := 0, locals := 44 }
set_option maxHeartbeats 4000000 in
set_option maxRecDepth 100000 in
theorem c_Mo_multiply (l : Launch) (dC : Nat → ClassId) (dI : Nat → Nat → Nat) (cI cJ : ClassId) (a_p0 a_matrix a_other z_upsOf z_downsOf z_numberOf z_rowOf z_writes z_reads z_newUps z_newDowns z_newNumber z_found z_image z_imagePlace : Nat) (sz : Nat) (thrown : Int32) (modes : Int32) (products : Int32) (wayKind : Int32) (isImageKnown : Int32) (madeState : Int32) (madeSign : Int32) (newMany : Int32) (imagePower : Int32) (imageMany : Int32) (imageWires : Int32) (matrix : Nat → Int64) (other : Nat → Int64) (p1 : Int32) (p2 : Int32) (p3 : Int32) (F : Nat) (u : Int32 × Int32 × (Nat → Int64)) (hf : f_Mo_multiply F modes madeState madeSign matrix other p1 p2 p3 = some u) : Met l y_Mo_multiply (Cond.code y_Mo_multiply prog_6_method_15_code 6 none :: T0) rm_Mo_multiply (va_Pc [.ref a_p0, .int p1, .int p2, .int p3] (Ww (dC, dI) [(a_p0, .inr (4, [.int thrown, .int modes, .int products, .ref z_upsOf, .ref z_downsOf, .ref z_numberOf, .int wayKind, .ref z_rowOf, .ref z_writes, .ref z_reads, .int isImageKnown, .int madeState, .int madeSign, .ref a_matrix, .ref a_other, .int newMany, .ref z_newUps, .ref z_newDowns, .ref z_newNumber, .ref z_found, .ref z_image, .ref z_imagePlace, .int imagePower, .int imageMany, .int imageWires])), (a_matrix, .inl (cJ, 65536, .inr (.inl matrix))), (a_other, .inl (cJ, 65536, .inr (.inl other)))] [(cI, .int), (cJ, .long)] sz)) (va_Qv (fun _ : Unit => True) (Bw (dC, dI) [(cI, .int), (cJ, .long)] (va_A [(a_p0, .inr (4, [.int thrown, .int modes, .int products, .ref z_upsOf, .ref z_downsOf, .ref z_numberOf, .int wayKind, .ref z_rowOf, .ref z_writes, .ref z_reads, .int isImageKnown, .int madeState, .int madeSign, .ref a_matrix, .ref a_other, .int newMany, .ref z_newUps, .ref z_newDowns, .ref z_newNumber, .ref z_found, .ref z_image, .ref z_imagePlace, .int imagePower, .int imageMany, .int imageWires])), (a_matrix, .inl (cJ, 65536, .inr (.inl matrix))), (a_other, .inl (cJ, 65536, .inr (.inl other)))] sz) (fun w1 => w1 = [(a_p0, .inr (4, [.int thrown, .int modes, .int products, .ref z_upsOf, .ref z_downsOf, .ref z_numberOf, .int wayKind, .ref z_rowOf, .ref z_writes, .ref z_reads, .int isImageKnown, .int u.1, .int u.2.1, .ref a_matrix, .ref a_other, .int newMany, .ref z_newUps, .ref z_newDowns, .ref z_newNumber, .ref z_found, .ref z_image, .ref z_imagePlace, .int imagePower, .int imageMany, .int imageWires])), (a_matrix, .inl (cJ, 65536, .inr (.inl matrix))), (a_other, .inl (cJ, 65536, .inr (.inl u.2.2)))])) (va_A [(a_p0, .inr (4, [.int thrown, .int modes, .int products, .ref z_upsOf, .ref z_downsOf, .ref z_numberOf, .int wayKind, .ref z_rowOf, .ref z_writes, .ref z_reads, .int isImageKnown, .int madeState, .int madeSign, .ref a_matrix, .ref a_other, .int newMany, .ref z_newUps, .ref z_newDowns, .ref z_newNumber, .ref z_found, .ref z_image, .ref z_imagePlace, .int imagePower, .int imageMany, .int imageWires])), (a_matrix, .inl (cJ, 65536, .inr (.inl matrix))), (a_other, .inl (cJ, 65536, .inr (.inl other)))] sz)) 0 0 (va_A [(a_p0, .inr (4, [.int thrown, .int modes, .int products, .ref z_upsOf, .ref z_downsOf, .ref z_numberOf, .int wayKind, .ref z_rowOf, .ref z_writes, .ref z_reads, .int isImageKnown, .int madeState, .int madeSign, .ref a_matrix, .ref a_other, .int newMany, .ref z_newUps, .ref z_newDowns, .ref z_newNumber, .ref z_found, .ref z_image, .ref z_imagePlace, .int imagePower, .int imageMany, .int imageWires])), (a_matrix, .inl (cJ, 65536, .inr (.inl matrix))), (a_other, .inl (cJ, 65536, .inr (.inl other)))] sz) := by
  refine Met.ofW (cc := prog_6_method_15_code) (maxL := 6) (ret := none) (by decide) rfl ?_
  intro p e s m args below meth c s₁ B hml hv
  obtain ⟨rfl, hsz, hP, hK, hD0, hNW⟩ := hv
  have hx := B.exec
  have hb := B.bytes
  have hr := B.returns
  have hts := atoms_spec (ws := Cond.code y_Mo_multiply prog_6_method_15_code 6 none :: T0) B.pre
  have ht0 : ∀ w ∈ T0, w.before ([.ref a_p0, .int p1, .int p2, .int p3] : List Value).toArray s = true := fun w h => hts w (List.mem_cons_of_mem _ h)
  have hown : s.vm.findClass "FermionMapsModel" = some m.cls := findClass_of_methodNamed B.named
  have hlocks := B.notSynchronized
  subst hsz
  have hD := hD0.self (sz := s.heap.size)
  generalize hAe : va_A [(a_p0, .inr (4, [.int thrown, .int modes, .int products, .ref z_upsOf, .ref z_downsOf, .ref z_numberOf, .int wayKind, .ref z_rowOf, .ref z_writes, .ref z_reads, .int isImageKnown, .int madeState, .int madeSign, .ref a_matrix, .ref a_other, .int newMany, .ref z_newUps, .ref z_newDowns, .ref z_newNumber, .ref z_found, .ref z_image, .ref z_imagePlace, .int imagePower, .int imageMany, .int imageWires])), (a_matrix, .inl (cJ, 65536, .inr (.inl matrix))), (a_other, .inl (cJ, 65536, .inr (.inl other)))] s.heap.size = A at hD ⊢
  have hA : ∀ q : Nat, s.heap.size ≤ q → A q := fun q h => by rw [← hAe]; exact Or.inr h
  have hS : va_S A s.heap s.heap [] := va_S.rf
  have hl := lv_entry ([.ref a_p0, .int p1, .int p2, .int p3]) (n := 6) (Nat.le_of_ble_eq_true rfl)
  rw [lg_entry_eq]
  generalize (lg_sl ([.ref a_p0, .int p1, .int p2, .int p3]) ++ List.replicate (6 - (lg_sl ([.ref a_p0, .int p1, .int p2, .int p3])).length) Slot.unset).toArray = ls at hl ⊢
  have hl : lv_has ls 6 [(0, .ref a_p0), (1, .int p1), (2, .int p2), (3, .int p3)] := hl
  refine W.nameQ (fun Q hQ => ?_)
  have B_189 : ∀ (k_54 : Int32 → Int32 → Int32 → Int32 → Int32 → Int32 → (Nat → Int64) → Option (Int32 × Int32 × (Nat → Int64))) (hk_54 : ∀ (x1 : Int32) (x2 : Int32) (x3 : Int32) (x4 : Int32) (madeState : Int32) (madeSign : Int32) (other : Nat → Int64) (H : Heap) (locs : List Loc) (ls : Array Slot), k_54 x1 x2 x3 x4 madeState madeSign other = some u → va_P (dC, dI) cls [(a_p0, .inr (4, [.int thrown, .int modes, .int products, .ref z_upsOf, .ref z_downsOf, .ref z_numberOf, .int wayKind, .ref z_rowOf, .ref z_writes, .ref z_reads, .int isImageKnown, .int madeState, .int madeSign, .ref a_matrix, .ref a_other, .int newMany, .ref z_newUps, .ref z_newDowns, .ref z_newNumber, .ref z_found, .ref z_image, .ref z_imagePlace, .int imagePower, .int imageMany, .int imageWires])), (a_matrix, .inl (cJ, 65536, .inr (.inl matrix))), (a_other, .inl (cJ, 65536, .inr (.inl other)))] H → va_D A [(a_p0, .inr (4, [.int thrown, .int modes, .int products, .ref z_upsOf, .ref z_downsOf, .ref z_numberOf, .int wayKind, .ref z_rowOf, .ref z_writes, .ref z_reads, .int isImageKnown, .int madeState, .int madeSign, .ref a_matrix, .ref a_other, .int newMany, .ref z_newUps, .ref z_newDowns, .ref z_newNumber, .ref z_found, .ref z_image, .ref z_imagePlace, .int imagePower, .int imageMany, .int imageWires])), (a_matrix, .inl (cJ, 65536, .inr (.inl matrix))), (a_other, .inl (cJ, 65536, .inr (.inl other)))] → va_S A s.heap H locs → lv_has ls 6 [(0, .ref a_p0), (1, .int x1), (2, .int x2), (3, .int x3), (4, .int x4)] → W p l e (headSpec (Cond.code y_Mo_multiply prog_6_method_15_code 6 none :: T0) rm_Mo_multiply).room s m ([.ref a_p0, .int p1, .int p2, .int p3] : List Value).toArray below meth c H locs 0 0 Q (F0 m 54 ls [])), ∀ (x1 : Int32) (x2 : Int32) (x3 : Int32) (x4 : Int32) (madeState : Int32) (madeSign : Int32) (other : Nat → Int64) (H : Heap) (locs : List Loc) (ls : Array Slot), b_Mo_multiply_189 F k_54 modes matrix x1 x2 x3 x4 madeState madeSign other = some u → va_P (dC, dI) cls [(a_p0, .inr (4, [.int thrown, .int modes, .int products, .ref z_upsOf, .ref z_downsOf, .ref z_numberOf, .int wayKind, .ref z_rowOf, .ref z_writes, .ref z_reads, .int isImageKnown, .int madeState, .int madeSign, .ref a_matrix, .ref a_other, .int newMany, .ref z_newUps, .ref z_newDowns, .ref z_newNumber, .ref z_found, .ref z_image, .ref z_imagePlace, .int imagePower, .int imageMany, .int imageWires])), (a_matrix, .inl (cJ, 65536, .inr (.inl matrix))), (a_other, .inl (cJ, 65536, .inr (.inl other)))] H → va_D A [(a_p0, .inr (4, [.int thrown, .int modes, .int products, .ref z_upsOf, .ref z_downsOf, .ref z_numberOf, .int wayKind, .ref z_rowOf, .ref z_writes, .ref z_reads, .int isImageKnown, .int madeState, .int madeSign, .ref a_matrix, .ref a_other, .int newMany, .ref z_newUps, .ref z_newDowns, .ref z_newNumber, .ref z_found, .ref z_image, .ref z_imagePlace, .int imagePower, .int imageMany, .int imageWires])), (a_matrix, .inl (cJ, 65536, .inr (.inl matrix))), (a_other, .inl (cJ, 65536, .inr (.inl other)))] → va_S A s.heap H locs → lv_has ls 6 [(0, .ref a_p0), (1, .int x1), (2, .int x2), (3, .int x3), (4, .int x4)] → W p l e (headSpec (Cond.code y_Mo_multiply prog_6_method_15_code 6 none :: T0) rm_Mo_multiply).room s m ([.ref a_p0, .int p1, .int p2, .int p3] : List Value).toArray below meth c H locs 0 0 Q (F0 m 189 ls []) := by
    intro k_54 hk_54
    intro x1 x2 x3 x4 madeState madeSign other H locs ls hf hP hD hS hl
    rw [b_Mo_multiply_189] at hf
    obtain ⟨x4_9, e_x4_9⟩ : ∃ y : Int32, y = x4 + 1 := ⟨_, rfl⟩
    replace hf := nm_eq e_x4_9 hf
    refine lv_iinc (v := x4_9) (lv' := [(4, .int x4_9), (0, .ref a_p0), (1, .int x1), (2, .int x2), (3, .int x3)]) hx hb d_Mo_multiply_189 hl (k := 4) rfl (by rw [e_x4_9]; rfl) (by decide) rfl (fun ls hl => ?_)
    refine lv_goto (tgt := 54) hx hb d_Mo_multiply_192 (by decide) ?_
    exact hk_54 x1 x2 x3 x4_9 madeState madeSign other H locs ls hf hP hD hS (lv_sub hl [1, 2, 3, 4, 0] rfl)
  have B_183 : ∀ (k_54 : Int32 → Int32 → Int32 → Int32 → Int32 → Int32 → (Nat → Int64) → Option (Int32 × Int32 × (Nat → Int64))) (hk_54 : ∀ (x1 : Int32) (x2 : Int32) (x3 : Int32) (x4 : Int32) (madeState : Int32) (madeSign : Int32) (other : Nat → Int64) (H : Heap) (locs : List Loc) (ls : Array Slot), k_54 x1 x2 x3 x4 madeState madeSign other = some u → va_P (dC, dI) cls [(a_p0, .inr (4, [.int thrown, .int modes, .int products, .ref z_upsOf, .ref z_downsOf, .ref z_numberOf, .int wayKind, .ref z_rowOf, .ref z_writes, .ref z_reads, .int isImageKnown, .int madeState, .int madeSign, .ref a_matrix, .ref a_other, .int newMany, .ref z_newUps, .ref z_newDowns, .ref z_newNumber, .ref z_found, .ref z_image, .ref z_imagePlace, .int imagePower, .int imageMany, .int imageWires])), (a_matrix, .inl (cJ, 65536, .inr (.inl matrix))), (a_other, .inl (cJ, 65536, .inr (.inl other)))] H → va_D A [(a_p0, .inr (4, [.int thrown, .int modes, .int products, .ref z_upsOf, .ref z_downsOf, .ref z_numberOf, .int wayKind, .ref z_rowOf, .ref z_writes, .ref z_reads, .int isImageKnown, .int madeState, .int madeSign, .ref a_matrix, .ref a_other, .int newMany, .ref z_newUps, .ref z_newDowns, .ref z_newNumber, .ref z_found, .ref z_image, .ref z_imagePlace, .int imagePower, .int imageMany, .int imageWires])), (a_matrix, .inl (cJ, 65536, .inr (.inl matrix))), (a_other, .inl (cJ, 65536, .inr (.inl other)))] → va_S A s.heap H locs → lv_has ls 6 [(0, .ref a_p0), (1, .int x1), (2, .int x2), (3, .int x3), (4, .int x4)] → W p l e (headSpec (Cond.code y_Mo_multiply prog_6_method_15_code 6 none :: T0) rm_Mo_multiply).room s m ([.ref a_p0, .int p1, .int p2, .int p3] : List Value).toArray below meth c H locs 0 0 Q (F0 m 54 ls [])) (k_89 : Int32 → Int32 → Int32 → Int32 → Int32 → Int32 → Int32 → (Nat → Int64) → Option (Int32 × Int32 × (Nat → Int64))) (hk_89 : ∀ (x1 : Int32) (x2 : Int32) (x3 : Int32) (x4 : Int32) (x5 : Int32) (madeState : Int32) (madeSign : Int32) (other : Nat → Int64) (H : Heap) (locs : List Loc) (ls : Array Slot), k_89 x1 x2 x3 x4 x5 madeState madeSign other = some u → va_P (dC, dI) cls [(a_p0, .inr (4, [.int thrown, .int modes, .int products, .ref z_upsOf, .ref z_downsOf, .ref z_numberOf, .int wayKind, .ref z_rowOf, .ref z_writes, .ref z_reads, .int isImageKnown, .int madeState, .int madeSign, .ref a_matrix, .ref a_other, .int newMany, .ref z_newUps, .ref z_newDowns, .ref z_newNumber, .ref z_found, .ref z_image, .ref z_imagePlace, .int imagePower, .int imageMany, .int imageWires])), (a_matrix, .inl (cJ, 65536, .inr (.inl matrix))), (a_other, .inl (cJ, 65536, .inr (.inl other)))] H → va_D A [(a_p0, .inr (4, [.int thrown, .int modes, .int products, .ref z_upsOf, .ref z_downsOf, .ref z_numberOf, .int wayKind, .ref z_rowOf, .ref z_writes, .ref z_reads, .int isImageKnown, .int madeState, .int madeSign, .ref a_matrix, .ref a_other, .int newMany, .ref z_newUps, .ref z_newDowns, .ref z_newNumber, .ref z_found, .ref z_image, .ref z_imagePlace, .int imagePower, .int imageMany, .int imageWires])), (a_matrix, .inl (cJ, 65536, .inr (.inl matrix))), (a_other, .inl (cJ, 65536, .inr (.inl other)))] → va_S A s.heap H locs → lv_has ls 6 [(0, .ref a_p0), (1, .int x1), (2, .int x2), (3, .int x3), (4, .int x4), (5, .int x5)] → W p l e (headSpec (Cond.code y_Mo_multiply prog_6_method_15_code 6 none :: T0) rm_Mo_multiply).room s m ([.ref a_p0, .int p1, .int p2, .int p3] : List Value).toArray below meth c H locs 0 0 Q (F0 m 89 ls [])), ∀ (x1 : Int32) (x2 : Int32) (x3 : Int32) (x4 : Int32) (x5 : Int32) (madeState : Int32) (madeSign : Int32) (other : Nat → Int64) (H : Heap) (locs : List Loc) (ls : Array Slot), b_Mo_multiply_183 F k_54 k_89 modes matrix x1 x2 x3 x4 x5 madeState madeSign other = some u → va_P (dC, dI) cls [(a_p0, .inr (4, [.int thrown, .int modes, .int products, .ref z_upsOf, .ref z_downsOf, .ref z_numberOf, .int wayKind, .ref z_rowOf, .ref z_writes, .ref z_reads, .int isImageKnown, .int madeState, .int madeSign, .ref a_matrix, .ref a_other, .int newMany, .ref z_newUps, .ref z_newDowns, .ref z_newNumber, .ref z_found, .ref z_image, .ref z_imagePlace, .int imagePower, .int imageMany, .int imageWires])), (a_matrix, .inl (cJ, 65536, .inr (.inl matrix))), (a_other, .inl (cJ, 65536, .inr (.inl other)))] H → va_D A [(a_p0, .inr (4, [.int thrown, .int modes, .int products, .ref z_upsOf, .ref z_downsOf, .ref z_numberOf, .int wayKind, .ref z_rowOf, .ref z_writes, .ref z_reads, .int isImageKnown, .int madeState, .int madeSign, .ref a_matrix, .ref a_other, .int newMany, .ref z_newUps, .ref z_newDowns, .ref z_newNumber, .ref z_found, .ref z_image, .ref z_imagePlace, .int imagePower, .int imageMany, .int imageWires])), (a_matrix, .inl (cJ, 65536, .inr (.inl matrix))), (a_other, .inl (cJ, 65536, .inr (.inl other)))] → va_S A s.heap H locs → lv_has ls 6 [(0, .ref a_p0), (1, .int x1), (2, .int x2), (3, .int x3), (4, .int x4), (5, .int x5)] → W p l e (headSpec (Cond.code y_Mo_multiply prog_6_method_15_code 6 none :: T0) rm_Mo_multiply).room s m ([.ref a_p0, .int p1, .int p2, .int p3] : List Value).toArray below meth c H locs 0 0 Q (F0 m 183 ls []) := by
    intro k_54 hk_54 k_89 hk_89
    intro x1 x2 x3 x4 x5 madeState madeSign other H locs ls hf hP hD hS hl
    rw [b_Mo_multiply_183] at hf
    obtain ⟨x5_17, e_x5_17⟩ : ∃ y : Int32, y = x5 + 1 := ⟨_, rfl⟩
    replace hf := nm_eq e_x5_17 hf
    refine lv_iinc (v := x5_17) (lv' := [(5, .int x5_17), (0, .ref a_p0), (1, .int x1), (2, .int x2), (3, .int x3), (4, .int x4)]) hx hb d_Mo_multiply_183 hl (k := 5) rfl (by rw [e_x5_17]; rfl) (by decide) rfl (fun ls hl => ?_)
    refine lv_goto (tgt := 89) hx hb d_Mo_multiply_186 (by decide) ?_
    exact hk_89 x1 x2 x3 x4 x5_17 madeState madeSign other H locs ls hf hP hD hS (lv_sub hl [1, 2, 3, 4, 5, 0] rfl)
  have B_89 : ∀ (k_54 : Int32 → Int32 → Int32 → Int32 → Int32 → Int32 → (Nat → Int64) → Option (Int32 × Int32 × (Nat → Int64))) (hk_54 : ∀ (x1 : Int32) (x2 : Int32) (x3 : Int32) (x4 : Int32) (madeState : Int32) (madeSign : Int32) (other : Nat → Int64) (H : Heap) (locs : List Loc) (ls : Array Slot), k_54 x1 x2 x3 x4 madeState madeSign other = some u → va_P (dC, dI) cls [(a_p0, .inr (4, [.int thrown, .int modes, .int products, .ref z_upsOf, .ref z_downsOf, .ref z_numberOf, .int wayKind, .ref z_rowOf, .ref z_writes, .ref z_reads, .int isImageKnown, .int madeState, .int madeSign, .ref a_matrix, .ref a_other, .int newMany, .ref z_newUps, .ref z_newDowns, .ref z_newNumber, .ref z_found, .ref z_image, .ref z_imagePlace, .int imagePower, .int imageMany, .int imageWires])), (a_matrix, .inl (cJ, 65536, .inr (.inl matrix))), (a_other, .inl (cJ, 65536, .inr (.inl other)))] H → va_D A [(a_p0, .inr (4, [.int thrown, .int modes, .int products, .ref z_upsOf, .ref z_downsOf, .ref z_numberOf, .int wayKind, .ref z_rowOf, .ref z_writes, .ref z_reads, .int isImageKnown, .int madeState, .int madeSign, .ref a_matrix, .ref a_other, .int newMany, .ref z_newUps, .ref z_newDowns, .ref z_newNumber, .ref z_found, .ref z_image, .ref z_imagePlace, .int imagePower, .int imageMany, .int imageWires])), (a_matrix, .inl (cJ, 65536, .inr (.inl matrix))), (a_other, .inl (cJ, 65536, .inr (.inl other)))] → va_S A s.heap H locs → lv_has ls 6 [(0, .ref a_p0), (1, .int x1), (2, .int x2), (3, .int x3), (4, .int x4)] → W p l e (headSpec (Cond.code y_Mo_multiply prog_6_method_15_code 6 none :: T0) rm_Mo_multiply).room s m ([.ref a_p0, .int p1, .int p2, .int p3] : List Value).toArray below meth c H locs 0 0 Q (F0 m 54 ls [])), ∀ (n : Nat), ∀ (x1 : Int32) (x2 : Int32) (x3 : Int32) (x4 : Int32) (x5 : Int32) (madeState : Int32) (madeSign : Int32) (other : Nat → Int64) (H : Heap) (locs : List Loc) (ls : Array Slot), b_Mo_multiply_89 F k_54 modes matrix n x1 x2 x3 x4 x5 madeState madeSign other = some u → va_P (dC, dI) cls [(a_p0, .inr (4, [.int thrown, .int modes, .int products, .ref z_upsOf, .ref z_downsOf, .ref z_numberOf, .int wayKind, .ref z_rowOf, .ref z_writes, .ref z_reads, .int isImageKnown, .int madeState, .int madeSign, .ref a_matrix, .ref a_other, .int newMany, .ref z_newUps, .ref z_newDowns, .ref z_newNumber, .ref z_found, .ref z_image, .ref z_imagePlace, .int imagePower, .int imageMany, .int imageWires])), (a_matrix, .inl (cJ, 65536, .inr (.inl matrix))), (a_other, .inl (cJ, 65536, .inr (.inl other)))] H → va_D A [(a_p0, .inr (4, [.int thrown, .int modes, .int products, .ref z_upsOf, .ref z_downsOf, .ref z_numberOf, .int wayKind, .ref z_rowOf, .ref z_writes, .ref z_reads, .int isImageKnown, .int madeState, .int madeSign, .ref a_matrix, .ref a_other, .int newMany, .ref z_newUps, .ref z_newDowns, .ref z_newNumber, .ref z_found, .ref z_image, .ref z_imagePlace, .int imagePower, .int imageMany, .int imageWires])), (a_matrix, .inl (cJ, 65536, .inr (.inl matrix))), (a_other, .inl (cJ, 65536, .inr (.inl other)))] → va_S A s.heap H locs → lv_has ls 6 [(0, .ref a_p0), (1, .int x1), (2, .int x2), (3, .int x3), (4, .int x4), (5, .int x5)] → W p l e (headSpec (Cond.code y_Mo_multiply prog_6_method_15_code 6 none :: T0) rm_Mo_multiply).room s m ([.ref a_p0, .int p1, .int p2, .int p3] : List Value).toArray below meth c H locs 0 0 Q (F0 m 89 ls []) := by
    intro k_54 hk_54
    intro n
    induction n with
    | zero =>
      intro x1 x2 x3 x4 x5 madeState madeSign other H locs ls hf hP hD hS hl
      exact no_fuel hf
    | succ n ih =>
      intro x1 x2 x3 x4 x5 madeState madeSign other H locs ls hf hP hD hS hl
      rw [b_Mo_multiply_89] at hf
      refine lv_iload hx hb d_Mo_multiply_89 (lv_at hl 5 rfl) ?_
      refine lv_aload_n hx hb d_Mo_multiply_91 rfl (lv_at hl 0 rfl) ?_
      obtain ⟨u_7, h_u_7, hf⟩ := bd hf
      refine rd_i (rdV_run (As := []) (rest := [.int x5]) ⟨hx, hb, hml, hown, ht0⟩ (c_Mo_states l dC dI cI cJ a_p0 z_upsOf z_downsOf z_numberOf z_rowOf z_writes z_reads a_matrix a_other z_newUps z_newDowns z_newNumber z_found z_image z_imagePlace thrown modes products wayKind isImageKnown madeState madeSign newMany imagePower imageMany imageWires F u_7 h_u_7) (cwV 0 ht0 (gV m_442 m_444 (T0_pr (y := ⟨"FermionMapsModel", "states", "()I"⟩) (i := 4) rfl rfl) m_5 m_445) rfl rfl rfl (by decide +kernel) ⟨Nat.le_of_ble_eq_true rfl, Nat.le_of_ble_eq_true rfl⟩) hK hNW hP [0] rfl (ci := 4) (q0 := 0) rfl rfl rfl hl.1 rfl (Nat.le_of_ble_eq_true rfl) d_Mo_multiply_92 ⟨Nat.zero_le _, Nat.zero_le _⟩) ?_
      refine lv_icmp_ge (tgt := 189) hx hb d_Mo_multiply_95 (by decide) (fun c_8 => ?_) (fun c_8 => ?_)
      · replace hf := if_t c_8 hf
        exact B_189 k_54 hk_54 x1 x2 x3 x4 madeState madeSign other H locs ls hf hP hD hS (lv_sub hl [0, 1, 2, 3, 4] rfl)
      · replace hf := if_f c_8 hf
        refine lv_iload_n hx hb d_Mo_multiply_98 rfl (lv_at hl 3 rfl) ?_
        refine lv_if_eq (tgt := 144) hx hb d_Mo_multiply_99 (by decide) (fun c_10 => ?_) (fun c_10 => ?_)
        · replace hf := if_t c_10 hf
          refine lv_aload_n hx hb d_Mo_multiply_144 rfl (lv_at hl 0 rfl) ?_
          refine va_get (D := (dC, dI)) (ci := 4) (v := .ref a_other) (C := "FermionMapsModel") (T := F_Mo) (N := 25) hx hb ht0 i_Mo hown hK hP 0 rfl rfl 14 (by decide) (ht0 _ m_471) (fun _ h9 => h9) rfl d_Mo_multiply_145 ?_
          refine lv_sipush (v := 256) hx hb d_Mo_multiply_148 (by decide) ?_
          refine lv_iload hx hb d_Mo_multiply_151 (lv_at hl 5 rfl) ?_
          refine lv_imul hx hb d_Mo_multiply_153 ?_
          refine lv_iload hx hb d_Mo_multiply_154 (lv_at hl 4 rfl) ?_
          refine lv_iadd hx hb d_Mo_multiply_156 ?_
          refine lv_topi (fun t_11 e_t_11 => ?_)
          replace hf := nm_eq e_t_11 hf
          refine lv_dup2_11 hx hb d_Mo_multiply_157 rfl rfl ?_
          obtain ⟨hi_12, hf⟩ := ckI_ok hf
          refine va_lald hx hb hK hP 2 1 rfl rfl hi_12 d_Mo_multiply_158 ?_
          refine lv_aload_n hx hb d_Mo_multiply_159 rfl (lv_at hl 0 rfl) ?_
          refine va_get (D := (dC, dI)) (ci := 4) (v := .int madeSign) (C := "FermionMapsModel") (T := F_Mo) (N := 25) hx hb ht0 i_Mo hown hK hP 0 rfl rfl 12 (by decide) (ht0 _ m_469) (fun _ h9 => h9) rfl d_Mo_multiply_160 ?_
          refine lv_i2l (v := madeSign.toInt64) hx hb d_Mo_multiply_163 rfl ?_
          refine lv_aload_n hx hb d_Mo_multiply_164 rfl (lv_at hl 0 rfl) ?_
          refine va_get (D := (dC, dI)) (ci := 4) (v := .ref a_matrix) (C := "FermionMapsModel") (T := F_Mo) (N := 25) hx hb ht0 i_Mo hown hK hP 0 rfl rfl 13 (by decide) (ht0 _ m_470) (fun _ h9 => h9) rfl d_Mo_multiply_165 ?_
          refine lv_sipush (v := 256) hx hb d_Mo_multiply_168 (by decide) ?_
          refine lv_iload hx hb d_Mo_multiply_171 (lv_at hl 5 rfl) ?_
          refine lv_imul hx hb d_Mo_multiply_173 ?_
          refine lv_aload_n hx hb d_Mo_multiply_174 rfl (lv_at hl 0 rfl) ?_
          refine va_get (D := (dC, dI)) (ci := 4) (v := .int madeState) (C := "FermionMapsModel") (T := F_Mo) (N := 25) hx hb ht0 i_Mo hown hK hP 0 rfl rfl 11 (by decide) (ht0 _ m_468) (fun _ h9 => h9) rfl d_Mo_multiply_175 ?_
          refine lv_iadd hx hb d_Mo_multiply_178 ?_
          refine lv_topi (fun t_13 e_t_13 => ?_)
          replace hf := nm_eq e_t_13 hf
          obtain ⟨hi_14, hf⟩ := ckI_ok hf
          refine va_lald hx hb hK hP 1 1 rfl rfl hi_14 d_Mo_multiply_179 ?_
          refine lv_lmul hx hb d_Mo_multiply_180 ?_
          refine lv_ladd hx hb d_Mo_multiply_181 ?_
          refine lv_topl (fun t_15 e_t_15 => ?_)
          replace hf := nm_eq e_t_15 hf
          obtain ⟨hi_16, hf⟩ := ckI_ok hf
          refine va_last hx hb hK hP hD hS 2 1 rfl rfl hi_16 d_Mo_multiply_182 (fun H locs hP hD hS => ?_)
          have hP : va_P (dC, dI) cls [(a_p0, .inr (4, [.int thrown, .int modes, .int products, .ref z_upsOf, .ref z_downsOf, .ref z_numberOf, .int wayKind, .ref z_rowOf, .ref z_writes, .ref z_reads, .int isImageKnown, .int madeState, .int madeSign, .ref a_matrix, .ref a_other, .int newMany, .ref z_newUps, .ref z_newDowns, .ref z_newNumber, .ref z_found, .ref z_image, .ref z_imagePlace, .int imagePower, .int imageMany, .int imageWires])), (a_matrix, .inl (cJ, 65536, .inr (.inl matrix))), (a_other, .inl (cJ, 65536, .inr (.inl (vp_updL other t_11.toNatClampNeg t_15))))] H := hP
          have hD : va_D A [(a_p0, .inr (4, [.int thrown, .int modes, .int products, .ref z_upsOf, .ref z_downsOf, .ref z_numberOf, .int wayKind, .ref z_rowOf, .ref z_writes, .ref z_reads, .int isImageKnown, .int madeState, .int madeSign, .ref a_matrix, .ref a_other, .int newMany, .ref z_newUps, .ref z_newDowns, .ref z_newNumber, .ref z_found, .ref z_image, .ref z_imagePlace, .int imagePower, .int imageMany, .int imageWires])), (a_matrix, .inl (cJ, 65536, .inr (.inl matrix))), (a_other, .inl (cJ, 65536, .inr (.inl (vp_updL other t_11.toNatClampNeg t_15))))] := hD
          exact B_183 k_54 hk_54 (b_Mo_multiply_89 F k_54 modes matrix n) ih x1 x2 x3 x4 x5 madeState madeSign (vp_updL other t_11.toNatClampNeg t_15) H locs ls hf hP hD hS (lv_sub hl [0, 1, 2, 3, 4, 5] rfl)
        · replace hf := if_f c_10 hf
          refine lv_aload_n hx hb d_Mo_multiply_102 rfl (lv_at hl 0 rfl) ?_
          refine va_get (D := (dC, dI)) (ci := 4) (v := .ref a_other) (C := "FermionMapsModel") (T := F_Mo) (N := 25) hx hb ht0 i_Mo hown hK hP 0 rfl rfl 14 (by decide) (ht0 _ m_471) (fun _ h9 => h9) rfl d_Mo_multiply_103 ?_
          refine lv_sipush (v := 256) hx hb d_Mo_multiply_106 (by decide) ?_
          refine lv_aload_n hx hb d_Mo_multiply_109 rfl (lv_at hl 0 rfl) ?_
          refine va_get (D := (dC, dI)) (ci := 4) (v := .int madeState) (C := "FermionMapsModel") (T := F_Mo) (N := 25) hx hb ht0 i_Mo hown hK hP 0 rfl rfl 11 (by decide) (ht0 _ m_468) (fun _ h9 => h9) rfl d_Mo_multiply_110 ?_
          refine lv_imul hx hb d_Mo_multiply_113 ?_
          refine lv_iload hx hb d_Mo_multiply_114 (lv_at hl 5 rfl) ?_
          refine lv_iadd hx hb d_Mo_multiply_116 ?_
          refine lv_topi (fun t_18 e_t_18 => ?_)
          replace hf := nm_eq e_t_18 hf
          refine lv_dup2_11 hx hb d_Mo_multiply_117 rfl rfl ?_
          obtain ⟨hi_19, hf⟩ := ckI_ok hf
          refine va_lald hx hb hK hP 2 1 rfl rfl hi_19 d_Mo_multiply_118 ?_
          refine lv_aload_n hx hb d_Mo_multiply_119 rfl (lv_at hl 0 rfl) ?_
          refine va_get (D := (dC, dI)) (ci := 4) (v := .int madeSign) (C := "FermionMapsModel") (T := F_Mo) (N := 25) hx hb ht0 i_Mo hown hK hP 0 rfl rfl 12 (by decide) (ht0 _ m_469) (fun _ h9 => h9) rfl d_Mo_multiply_120 ?_
          refine lv_i2l (v := madeSign.toInt64) hx hb d_Mo_multiply_123 rfl ?_
          refine lv_aload_n hx hb d_Mo_multiply_124 rfl (lv_at hl 0 rfl) ?_
          refine va_get (D := (dC, dI)) (ci := 4) (v := .ref a_matrix) (C := "FermionMapsModel") (T := F_Mo) (N := 25) hx hb ht0 i_Mo hown hK hP 0 rfl rfl 13 (by decide) (ht0 _ m_470) (fun _ h9 => h9) rfl d_Mo_multiply_125 ?_
          refine lv_sipush (v := 256) hx hb d_Mo_multiply_128 (by decide) ?_
          refine lv_iload hx hb d_Mo_multiply_131 (lv_at hl 4 rfl) ?_
          refine lv_imul hx hb d_Mo_multiply_133 ?_
          refine lv_iload hx hb d_Mo_multiply_134 (lv_at hl 5 rfl) ?_
          refine lv_iadd hx hb d_Mo_multiply_136 ?_
          refine lv_topi (fun t_20 e_t_20 => ?_)
          replace hf := nm_eq e_t_20 hf
          obtain ⟨hi_21, hf⟩ := ckI_ok hf
          refine va_lald hx hb hK hP 1 1 rfl rfl hi_21 d_Mo_multiply_137 ?_
          refine lv_lmul hx hb d_Mo_multiply_138 ?_
          refine lv_ladd hx hb d_Mo_multiply_139 ?_
          refine lv_topl (fun t_22 e_t_22 => ?_)
          replace hf := nm_eq e_t_22 hf
          obtain ⟨hi_23, hf⟩ := ckI_ok hf
          refine va_last hx hb hK hP hD hS 2 1 rfl rfl hi_23 d_Mo_multiply_140 (fun H locs hP hD hS => ?_)
          have hP : va_P (dC, dI) cls [(a_p0, .inr (4, [.int thrown, .int modes, .int products, .ref z_upsOf, .ref z_downsOf, .ref z_numberOf, .int wayKind, .ref z_rowOf, .ref z_writes, .ref z_reads, .int isImageKnown, .int madeState, .int madeSign, .ref a_matrix, .ref a_other, .int newMany, .ref z_newUps, .ref z_newDowns, .ref z_newNumber, .ref z_found, .ref z_image, .ref z_imagePlace, .int imagePower, .int imageMany, .int imageWires])), (a_matrix, .inl (cJ, 65536, .inr (.inl matrix))), (a_other, .inl (cJ, 65536, .inr (.inl (vp_updL other t_18.toNatClampNeg t_22))))] H := hP
          have hD : va_D A [(a_p0, .inr (4, [.int thrown, .int modes, .int products, .ref z_upsOf, .ref z_downsOf, .ref z_numberOf, .int wayKind, .ref z_rowOf, .ref z_writes, .ref z_reads, .int isImageKnown, .int madeState, .int madeSign, .ref a_matrix, .ref a_other, .int newMany, .ref z_newUps, .ref z_newDowns, .ref z_newNumber, .ref z_found, .ref z_image, .ref z_imagePlace, .int imagePower, .int imageMany, .int imageWires])), (a_matrix, .inl (cJ, 65536, .inr (.inl matrix))), (a_other, .inl (cJ, 65536, .inr (.inl (vp_updL other t_18.toNatClampNeg t_22))))] := hD
          refine lv_goto (tgt := 183) hx hb d_Mo_multiply_141 (by decide) ?_
          exact B_183 k_54 hk_54 (b_Mo_multiply_89 F k_54 modes matrix n) ih x1 x2 x3 x4 x5 madeState madeSign (vp_updL other t_18.toNatClampNeg t_22) H locs ls hf hP hD hS (lv_sub hl [0, 1, 2, 3, 4, 5] rfl)
  have B_54 : ∀ (n : Nat), ∀ (x1 : Int32) (x2 : Int32) (x3 : Int32) (x4 : Int32) (madeState : Int32) (madeSign : Int32) (other : Nat → Int64) (H : Heap) (locs : List Loc) (ls : Array Slot), b_Mo_multiply_54 F modes matrix n x1 x2 x3 x4 madeState madeSign other = some u → va_P (dC, dI) cls [(a_p0, .inr (4, [.int thrown, .int modes, .int products, .ref z_upsOf, .ref z_downsOf, .ref z_numberOf, .int wayKind, .ref z_rowOf, .ref z_writes, .ref z_reads, .int isImageKnown, .int madeState, .int madeSign, .ref a_matrix, .ref a_other, .int newMany, .ref z_newUps, .ref z_newDowns, .ref z_newNumber, .ref z_found, .ref z_image, .ref z_imagePlace, .int imagePower, .int imageMany, .int imageWires])), (a_matrix, .inl (cJ, 65536, .inr (.inl matrix))), (a_other, .inl (cJ, 65536, .inr (.inl other)))] H → va_D A [(a_p0, .inr (4, [.int thrown, .int modes, .int products, .ref z_upsOf, .ref z_downsOf, .ref z_numberOf, .int wayKind, .ref z_rowOf, .ref z_writes, .ref z_reads, .int isImageKnown, .int madeState, .int madeSign, .ref a_matrix, .ref a_other, .int newMany, .ref z_newUps, .ref z_newDowns, .ref z_newNumber, .ref z_found, .ref z_image, .ref z_imagePlace, .int imagePower, .int imageMany, .int imageWires])), (a_matrix, .inl (cJ, 65536, .inr (.inl matrix))), (a_other, .inl (cJ, 65536, .inr (.inl other)))] → va_S A s.heap H locs → lv_has ls 6 [(0, .ref a_p0), (1, .int x1), (2, .int x2), (3, .int x3), (4, .int x4)] → W p l e (headSpec (Cond.code y_Mo_multiply prog_6_method_15_code 6 none :: T0) rm_Mo_multiply).room s m ([.ref a_p0, .int p1, .int p2, .int p3] : List Value).toArray below meth c H locs 0 0 Q (F0 m 54 ls []) := by
    intro n
    induction n with
    | zero =>
      intro x1 x2 x3 x4 madeState madeSign other H locs ls hf hP hD hS hl
      exact no_fuel hf
    | succ n ih =>
      intro x1 x2 x3 x4 madeState madeSign other H locs ls hf hP hD hS hl
      rw [b_Mo_multiply_54] at hf
      refine lv_iload hx hb d_Mo_multiply_54 (lv_at hl 4 rfl) ?_
      refine lv_aload_n hx hb d_Mo_multiply_56 rfl (lv_at hl 0 rfl) ?_
      obtain ⟨u_3, h_u_3, hf⟩ := bd hf
      refine rd_i (rdV_run (As := []) (rest := [.int x4]) ⟨hx, hb, hml, hown, ht0⟩ (c_Mo_states l dC dI cI cJ a_p0 z_upsOf z_downsOf z_numberOf z_rowOf z_writes z_reads a_matrix a_other z_newUps z_newDowns z_newNumber z_found z_image z_imagePlace thrown modes products wayKind isImageKnown madeState madeSign newMany imagePower imageMany imageWires F u_3 h_u_3) (cwV 0 ht0 (gV m_442 m_444 (T0_pr (y := ⟨"FermionMapsModel", "states", "()I"⟩) (i := 4) rfl rfl) m_5 m_445) rfl rfl rfl (by decide +kernel) ⟨Nat.le_of_ble_eq_true rfl, Nat.le_of_ble_eq_true rfl⟩) hK hNW hP [0] rfl (ci := 4) (q0 := 0) rfl rfl rfl hl.1 rfl (Nat.le_of_ble_eq_true rfl) d_Mo_multiply_57 ⟨Nat.zero_le _, Nat.zero_le _⟩) ?_
      refine lv_icmp_ge (tgt := 195) hx hb d_Mo_multiply_60 (by decide) (fun c_4 => ?_) (fun c_4 => ?_)
      · replace hf := if_t c_4 hf
        have hu := Option.some.inj hf
        subst hu
        exact rw_v hQ rfl hP hD hK hS hx hb hr hlocks d_Mo_multiply_195
      · replace hf := if_f c_4 hf
        refine lv_aload_n hx hb d_Mo_multiply_63 rfl (lv_at hl 0 rfl) ?_
        refine lv_iload hx hb d_Mo_multiply_64 (lv_at hl 4 rfl) ?_
        refine va_put (D := (dC, dI)) (ci := 4) (v := .int x4) (ty := .int) (C := "FermionMapsModel") (T := F_Mo) (N := 25) hx hb ht0 i_Mo t_Mo t_Mo_ok n_Mo hown hK hP hD hS 0 rfl rfl 11 (by decide) (ht0 _ m_468) (fun _ h9 => h9) rfl (by decide +kernel) rfl rfl (Nat.le_of_ble_eq_true rfl) d_Mo_multiply_66 (fun H locs hP hD hS => ?_)
        have hP : va_P (dC, dI) cls [(a_p0, .inr (4, [.int thrown, .int modes, .int products, .ref z_upsOf, .ref z_downsOf, .ref z_numberOf, .int wayKind, .ref z_rowOf, .ref z_writes, .ref z_reads, .int isImageKnown, .int x4, .int madeSign, .ref a_matrix, .ref a_other, .int newMany, .ref z_newUps, .ref z_newDowns, .ref z_newNumber, .ref z_found, .ref z_image, .ref z_imagePlace, .int imagePower, .int imageMany, .int imageWires])), (a_matrix, .inl (cJ, 65536, .inr (.inl matrix))), (a_other, .inl (cJ, 65536, .inr (.inl other)))] H := hP
        have hD : va_D A [(a_p0, .inr (4, [.int thrown, .int modes, .int products, .ref z_upsOf, .ref z_downsOf, .ref z_numberOf, .int wayKind, .ref z_rowOf, .ref z_writes, .ref z_reads, .int isImageKnown, .int x4, .int madeSign, .ref a_matrix, .ref a_other, .int newMany, .ref z_newUps, .ref z_newDowns, .ref z_newNumber, .ref z_found, .ref z_image, .ref z_imagePlace, .int imagePower, .int imageMany, .int imageWires])), (a_matrix, .inl (cJ, 65536, .inr (.inl matrix))), (a_other, .inl (cJ, 65536, .inr (.inl other)))] := hD
        refine lv_aload_n hx hb d_Mo_multiply_69 rfl (lv_at hl 0 rfl) ?_
        refine lv_iconst (v := 1) hx hb d_Mo_multiply_70 (by decide) ?_
        refine va_put (D := (dC, dI)) (ci := 4) (v := .int 1) (ty := .int) (C := "FermionMapsModel") (T := F_Mo) (N := 25) hx hb ht0 i_Mo t_Mo t_Mo_ok n_Mo hown hK hP hD hS 0 rfl rfl 12 (by decide) (ht0 _ m_469) (fun _ h9 => h9) rfl (by decide +kernel) rfl rfl (Nat.le_of_ble_eq_true rfl) d_Mo_multiply_71 (fun H locs hP hD hS => ?_)
        have hP : va_P (dC, dI) cls [(a_p0, .inr (4, [.int thrown, .int modes, .int products, .ref z_upsOf, .ref z_downsOf, .ref z_numberOf, .int wayKind, .ref z_rowOf, .ref z_writes, .ref z_reads, .int isImageKnown, .int x4, .int 1, .ref a_matrix, .ref a_other, .int newMany, .ref z_newUps, .ref z_newDowns, .ref z_newNumber, .ref z_found, .ref z_image, .ref z_imagePlace, .int imagePower, .int imageMany, .int imageWires])), (a_matrix, .inl (cJ, 65536, .inr (.inl matrix))), (a_other, .inl (cJ, 65536, .inr (.inl other)))] H := hP
        have hD : va_D A [(a_p0, .inr (4, [.int thrown, .int modes, .int products, .ref z_upsOf, .ref z_downsOf, .ref z_numberOf, .int wayKind, .ref z_rowOf, .ref z_writes, .ref z_reads, .int isImageKnown, .int x4, .int 1, .ref a_matrix, .ref a_other, .int newMany, .ref z_newUps, .ref z_newDowns, .ref z_newNumber, .ref z_found, .ref z_image, .ref z_imagePlace, .int imagePower, .int imageMany, .int imageWires])), (a_matrix, .inl (cJ, 65536, .inr (.inl matrix))), (a_other, .inl (cJ, 65536, .inr (.inl other)))] := hD
        refine lv_aload_n hx hb d_Mo_multiply_74 rfl (lv_at hl 0 rfl) ?_
        refine lv_iload_n hx hb d_Mo_multiply_75 rfl (lv_at hl 1 rfl) ?_
        refine lv_iload_n hx hb d_Mo_multiply_76 rfl (lv_at hl 2 rfl) ?_
        obtain ⟨u_5, h_u_5, hf⟩ := bd hf
        refine wr_i (wr := [(a_matrix, .inl (cJ, 65536, .inr (.inl matrix))), (a_other, .inl (cJ, 65536, .inr (.inl other)))]) (wrV_run (As := [.int x1, .int x2]) (rest := []) ⟨hx, hb, hml, hown, ht0⟩ (c_Mo_climb l dC dI cI cJ a_p0 z_upsOf z_downsOf z_numberOf z_rowOf z_writes z_reads a_matrix a_other z_newUps z_newDowns z_newNumber z_found z_image z_imagePlace H.size thrown modes products wayKind isImageKnown x4 1 newMany imagePower imageMany imageWires x1 x2 F u_5 h_u_5) (cwV 2 ht0 (gV m_571 m_573 (T0_pr (y := ⟨"FermionMapsModel", "climb", "(IZ)Z"⟩) (i := 12) rfl rfl) m_5 m_574) rfl rfl rfl (by decide +kernel) ⟨Nat.le_of_ble_eq_true rfl, Nat.le_of_ble_eq_true rfl⟩) hK hNW hP hD [0] rfl rfl (by decide) (ci := 4) (q0 := 0) rfl rfl rfl hl.1 rfl (Nat.le_of_ble_eq_true rfl) d_Mo_multiply_77 ⟨Nat.zero_le _, Nat.zero_le _⟩) hP hD hS hA [0] [1, 2] rfl rfl (by decide) (by decide) (fun w1 H locs hw hP hD hS => ?_)
        obtain rfl := hw
        have hP : va_P (dC, dI) cls [(a_p0, .inr (4, [.int thrown, .int modes, .int products, .ref z_upsOf, .ref z_downsOf, .ref z_numberOf, .int wayKind, .ref z_rowOf, .ref z_writes, .ref z_reads, .int isImageKnown, .int u_5.2.1, .int u_5.2.2, .ref a_matrix, .ref a_other, .int newMany, .ref z_newUps, .ref z_newDowns, .ref z_newNumber, .ref z_found, .ref z_image, .ref z_imagePlace, .int imagePower, .int imageMany, .int imageWires])), (a_matrix, .inl (cJ, 65536, .inr (.inl matrix))), (a_other, .inl (cJ, 65536, .inr (.inl other)))] H := hP.sub [2, 0, 1] rfl
        have hD : va_D A [(a_p0, .inr (4, [.int thrown, .int modes, .int products, .ref z_upsOf, .ref z_downsOf, .ref z_numberOf, .int wayKind, .ref z_rowOf, .ref z_writes, .ref z_reads, .int isImageKnown, .int u_5.2.1, .int u_5.2.2, .ref a_matrix, .ref a_other, .int newMany, .ref z_newUps, .ref z_newDowns, .ref z_newNumber, .ref z_found, .ref z_image, .ref z_imagePlace, .int imagePower, .int imageMany, .int imageWires])), (a_matrix, .inl (cJ, 65536, .inr (.inl matrix))), (a_other, .inl (cJ, 65536, .inr (.inl other)))] := hD.sub [2, 0, 1] (by decide) rfl
        refine lv_if_ne (tgt := 86) hx hb d_Mo_multiply_80 (by decide) (fun c_6 => ?_) (fun c_6 => ?_)
        · replace hf := if_f c_6 hf
          refine lv_iconst (v := 0) hx hb d_Mo_multiply_86 (by decide) ?_
          refine lv_istore (lv' := [(5, .int 0), (0, .ref a_p0), (1, .int x1), (2, .int x2), (3, .int x3), (4, .int x4)]) hx hb d_Mo_multiply_87 hl (by decide) rfl (fun ls hl => ?_)
          exact B_89 (b_Mo_multiply_54 F modes matrix n) ih F x1 x2 x3 x4 0 u_5.2.1 u_5.2.2 other H locs ls hf hP hD hS (lv_sub hl [1, 2, 3, 4, 5, 0] rfl)
        · replace hf := if_t c_6 hf
          refine lv_goto (tgt := 189) hx hb d_Mo_multiply_83 (by decide) ?_
          exact B_189 (b_Mo_multiply_54 F modes matrix n) ih x1 x2 x3 x4 u_5.2.1 u_5.2.2 other H locs ls hf hP hD hS (lv_sub hl [0, 1, 2, 3, 4] rfl)
  have B_15 : ∀ (k_3 : Int32 → Int32 → Int32 → Int32 → Int32 → Int32 → (Nat → Int64) → Option (Int32 × Int32 × (Nat → Int64))) (hk_3 : ∀ (x1 : Int32) (x2 : Int32) (x3 : Int32) (x4 : Int32) (madeState : Int32) (madeSign : Int32) (other : Nat → Int64) (H : Heap) (locs : List Loc) (ls : Array Slot), k_3 x1 x2 x3 x4 madeState madeSign other = some u → va_P (dC, dI) cls [(a_p0, .inr (4, [.int thrown, .int modes, .int products, .ref z_upsOf, .ref z_downsOf, .ref z_numberOf, .int wayKind, .ref z_rowOf, .ref z_writes, .ref z_reads, .int isImageKnown, .int madeState, .int madeSign, .ref a_matrix, .ref a_other, .int newMany, .ref z_newUps, .ref z_newDowns, .ref z_newNumber, .ref z_found, .ref z_image, .ref z_imagePlace, .int imagePower, .int imageMany, .int imageWires])), (a_matrix, .inl (cJ, 65536, .inr (.inl matrix))), (a_other, .inl (cJ, 65536, .inr (.inl other)))] H → va_D A [(a_p0, .inr (4, [.int thrown, .int modes, .int products, .ref z_upsOf, .ref z_downsOf, .ref z_numberOf, .int wayKind, .ref z_rowOf, .ref z_writes, .ref z_reads, .int isImageKnown, .int madeState, .int madeSign, .ref a_matrix, .ref a_other, .int newMany, .ref z_newUps, .ref z_newDowns, .ref z_newNumber, .ref z_found, .ref z_image, .ref z_imagePlace, .int imagePower, .int imageMany, .int imageWires])), (a_matrix, .inl (cJ, 65536, .inr (.inl matrix))), (a_other, .inl (cJ, 65536, .inr (.inl other)))] → va_S A s.heap H locs → lv_has ls 6 [(0, .ref a_p0), (1, .int x1), (2, .int x2), (3, .int x3), (4, .int x4)] → W p l e (headSpec (Cond.code y_Mo_multiply prog_6_method_15_code 6 none :: T0) rm_Mo_multiply).room s m ([.ref a_p0, .int p1, .int p2, .int p3] : List Value).toArray below meth c H locs 0 0 Q (F0 m 3 ls [])), ∀ (n : Nat), ∀ (x1 : Int32) (x2 : Int32) (x3 : Int32) (x4 : Int32) (x5 : Int32) (madeState : Int32) (madeSign : Int32) (other : Nat → Int64) (H : Heap) (locs : List Loc) (ls : Array Slot), b_Mo_multiply_15 F k_3 modes matrix n x1 x2 x3 x4 x5 madeState madeSign other = some u → va_P (dC, dI) cls [(a_p0, .inr (4, [.int thrown, .int modes, .int products, .ref z_upsOf, .ref z_downsOf, .ref z_numberOf, .int wayKind, .ref z_rowOf, .ref z_writes, .ref z_reads, .int isImageKnown, .int madeState, .int madeSign, .ref a_matrix, .ref a_other, .int newMany, .ref z_newUps, .ref z_newDowns, .ref z_newNumber, .ref z_found, .ref z_image, .ref z_imagePlace, .int imagePower, .int imageMany, .int imageWires])), (a_matrix, .inl (cJ, 65536, .inr (.inl matrix))), (a_other, .inl (cJ, 65536, .inr (.inl other)))] H → va_D A [(a_p0, .inr (4, [.int thrown, .int modes, .int products, .ref z_upsOf, .ref z_downsOf, .ref z_numberOf, .int wayKind, .ref z_rowOf, .ref z_writes, .ref z_reads, .int isImageKnown, .int madeState, .int madeSign, .ref a_matrix, .ref a_other, .int newMany, .ref z_newUps, .ref z_newDowns, .ref z_newNumber, .ref z_found, .ref z_image, .ref z_imagePlace, .int imagePower, .int imageMany, .int imageWires])), (a_matrix, .inl (cJ, 65536, .inr (.inl matrix))), (a_other, .inl (cJ, 65536, .inr (.inl other)))] → va_S A s.heap H locs → lv_has ls 6 [(0, .ref a_p0), (1, .int x1), (2, .int x2), (3, .int x3), (4, .int x4), (5, .int x5)] → W p l e (headSpec (Cond.code y_Mo_multiply prog_6_method_15_code 6 none :: T0) rm_Mo_multiply).room s m ([.ref a_p0, .int p1, .int p2, .int p3] : List Value).toArray below meth c H locs 0 0 Q (F0 m 15 ls []) := by
    intro k_3 hk_3
    intro n
    induction n with
    | zero =>
      intro x1 x2 x3 x4 x5 madeState madeSign other H locs ls hf hP hD hS hl
      exact no_fuel hf
    | succ n ih =>
      intro x1 x2 x3 x4 x5 madeState madeSign other H locs ls hf hP hD hS hl
      rw [b_Mo_multiply_15] at hf
      refine lv_iload hx hb d_Mo_multiply_15 (lv_at hl 5 rfl) ?_
      refine lv_aload_n hx hb d_Mo_multiply_17 rfl (lv_at hl 0 rfl) ?_
      obtain ⟨u_24, h_u_24, hf⟩ := bd hf
      refine rd_i (rdV_run (As := []) (rest := [.int x5]) ⟨hx, hb, hml, hown, ht0⟩ (c_Mo_states l dC dI cI cJ a_p0 z_upsOf z_downsOf z_numberOf z_rowOf z_writes z_reads a_matrix a_other z_newUps z_newDowns z_newNumber z_found z_image z_imagePlace thrown modes products wayKind isImageKnown madeState madeSign newMany imagePower imageMany imageWires F u_24 h_u_24) (cwV 0 ht0 (gV m_442 m_444 (T0_pr (y := ⟨"FermionMapsModel", "states", "()I"⟩) (i := 4) rfl rfl) m_5 m_445) rfl rfl rfl (by decide +kernel) ⟨Nat.le_of_ble_eq_true rfl, Nat.le_of_ble_eq_true rfl⟩) hK hNW hP [0] rfl (ci := 4) (q0 := 0) rfl rfl rfl hl.1 rfl (Nat.le_of_ble_eq_true rfl) d_Mo_multiply_18 ⟨Nat.zero_le _, Nat.zero_le _⟩) ?_
      refine lv_icmp_ge (tgt := 45) hx hb d_Mo_multiply_21 (by decide) (fun c_25 => ?_) (fun c_25 => ?_)
      · replace hf := if_t c_25 hf
        obtain ⟨x4_26, e_x4_26⟩ : ∃ y : Int32, y = x4 + 1 := ⟨_, rfl⟩
        replace hf := nm_eq e_x4_26 hf
        refine lv_iinc (v := x4_26) (lv' := [(4, .int x4_26), (0, .ref a_p0), (1, .int x1), (2, .int x2), (3, .int x3), (5, .int x5)]) hx hb d_Mo_multiply_45 hl (k := 4) rfl (by rw [e_x4_26]; rfl) (by decide) rfl (fun ls hl => ?_)
        refine lv_goto (tgt := 3) hx hb d_Mo_multiply_48 (by decide) ?_
        exact hk_3 x1 x2 x3 x4_26 madeState madeSign other H locs ls hf hP hD hS (lv_sub hl [1, 2, 3, 4, 0] rfl)
      · replace hf := if_f c_25 hf
        refine lv_aload_n hx hb d_Mo_multiply_24 rfl (lv_at hl 0 rfl) ?_
        refine va_get (D := (dC, dI)) (ci := 4) (v := .ref a_other) (C := "FermionMapsModel") (T := F_Mo) (N := 25) hx hb ht0 i_Mo hown hK hP 0 rfl rfl 14 (by decide) (ht0 _ m_471) (fun _ h9 => h9) rfl d_Mo_multiply_25 ?_
        refine lv_sipush (v := 256) hx hb d_Mo_multiply_28 (by decide) ?_
        refine lv_iload hx hb d_Mo_multiply_31 (lv_at hl 4 rfl) ?_
        refine lv_imul hx hb d_Mo_multiply_33 ?_
        refine lv_iload hx hb d_Mo_multiply_34 (lv_at hl 5 rfl) ?_
        refine lv_iadd hx hb d_Mo_multiply_36 ?_
        refine lv_lconst (v := 0) hx hb d_Mo_multiply_37 (by decide) ?_
        obtain ⟨hi_27, hf⟩ := ckI_ok hf
        refine va_last hx hb hK hP hD hS 2 1 rfl rfl hi_27 d_Mo_multiply_38 (fun H locs hP hD hS => ?_)
        have hP : va_P (dC, dI) cls [(a_p0, .inr (4, [.int thrown, .int modes, .int products, .ref z_upsOf, .ref z_downsOf, .ref z_numberOf, .int wayKind, .ref z_rowOf, .ref z_writes, .ref z_reads, .int isImageKnown, .int madeState, .int madeSign, .ref a_matrix, .ref a_other, .int newMany, .ref z_newUps, .ref z_newDowns, .ref z_newNumber, .ref z_found, .ref z_image, .ref z_imagePlace, .int imagePower, .int imageMany, .int imageWires])), (a_matrix, .inl (cJ, 65536, .inr (.inl matrix))), (a_other, .inl (cJ, 65536, .inr (.inl (vp_updL other ((256 * x4) + x5).toNatClampNeg 0))))] H := hP
        have hD : va_D A [(a_p0, .inr (4, [.int thrown, .int modes, .int products, .ref z_upsOf, .ref z_downsOf, .ref z_numberOf, .int wayKind, .ref z_rowOf, .ref z_writes, .ref z_reads, .int isImageKnown, .int madeState, .int madeSign, .ref a_matrix, .ref a_other, .int newMany, .ref z_newUps, .ref z_newDowns, .ref z_newNumber, .ref z_found, .ref z_image, .ref z_imagePlace, .int imagePower, .int imageMany, .int imageWires])), (a_matrix, .inl (cJ, 65536, .inr (.inl matrix))), (a_other, .inl (cJ, 65536, .inr (.inl (vp_updL other ((256 * x4) + x5).toNatClampNeg 0))))] := hD
        obtain ⟨x5_28, e_x5_28⟩ : ∃ y : Int32, y = x5 + 1 := ⟨_, rfl⟩
        replace hf := nm_eq e_x5_28 hf
        refine lv_iinc (v := x5_28) (lv' := [(5, .int x5_28), (0, .ref a_p0), (1, .int x1), (2, .int x2), (3, .int x3), (4, .int x4)]) hx hb d_Mo_multiply_39 hl (k := 5) rfl (by rw [e_x5_28]; rfl) (by decide) rfl (fun ls hl => ?_)
        refine lv_goto (tgt := 15) hx hb d_Mo_multiply_42 (by decide) ?_
        exact ih x1 x2 x3 x4 x5_28 madeState madeSign (vp_updL other ((256 * x4) + x5).toNatClampNeg 0) H locs ls hf hP hD hS (lv_sub hl [1, 2, 3, 4, 5, 0] rfl)
  have B_3 : ∀ (n : Nat), ∀ (x1 : Int32) (x2 : Int32) (x3 : Int32) (x4 : Int32) (madeState : Int32) (madeSign : Int32) (other : Nat → Int64) (H : Heap) (locs : List Loc) (ls : Array Slot), b_Mo_multiply_3 F modes matrix n x1 x2 x3 x4 madeState madeSign other = some u → va_P (dC, dI) cls [(a_p0, .inr (4, [.int thrown, .int modes, .int products, .ref z_upsOf, .ref z_downsOf, .ref z_numberOf, .int wayKind, .ref z_rowOf, .ref z_writes, .ref z_reads, .int isImageKnown, .int madeState, .int madeSign, .ref a_matrix, .ref a_other, .int newMany, .ref z_newUps, .ref z_newDowns, .ref z_newNumber, .ref z_found, .ref z_image, .ref z_imagePlace, .int imagePower, .int imageMany, .int imageWires])), (a_matrix, .inl (cJ, 65536, .inr (.inl matrix))), (a_other, .inl (cJ, 65536, .inr (.inl other)))] H → va_D A [(a_p0, .inr (4, [.int thrown, .int modes, .int products, .ref z_upsOf, .ref z_downsOf, .ref z_numberOf, .int wayKind, .ref z_rowOf, .ref z_writes, .ref z_reads, .int isImageKnown, .int madeState, .int madeSign, .ref a_matrix, .ref a_other, .int newMany, .ref z_newUps, .ref z_newDowns, .ref z_newNumber, .ref z_found, .ref z_image, .ref z_imagePlace, .int imagePower, .int imageMany, .int imageWires])), (a_matrix, .inl (cJ, 65536, .inr (.inl matrix))), (a_other, .inl (cJ, 65536, .inr (.inl other)))] → va_S A s.heap H locs → lv_has ls 6 [(0, .ref a_p0), (1, .int x1), (2, .int x2), (3, .int x3), (4, .int x4)] → W p l e (headSpec (Cond.code y_Mo_multiply prog_6_method_15_code 6 none :: T0) rm_Mo_multiply).room s m ([.ref a_p0, .int p1, .int p2, .int p3] : List Value).toArray below meth c H locs 0 0 Q (F0 m 3 ls []) := by
    intro n
    induction n with
    | zero =>
      intro x1 x2 x3 x4 madeState madeSign other H locs ls hf hP hD hS hl
      exact no_fuel hf
    | succ n ih =>
      intro x1 x2 x3 x4 madeState madeSign other H locs ls hf hP hD hS hl
      rw [b_Mo_multiply_3] at hf
      refine lv_iload hx hb d_Mo_multiply_3 (lv_at hl 4 rfl) ?_
      refine lv_aload_n hx hb d_Mo_multiply_5 rfl (lv_at hl 0 rfl) ?_
      obtain ⟨u_1, h_u_1, hf⟩ := bd hf
      refine rd_i (rdV_run (As := []) (rest := [.int x4]) ⟨hx, hb, hml, hown, ht0⟩ (c_Mo_states l dC dI cI cJ a_p0 z_upsOf z_downsOf z_numberOf z_rowOf z_writes z_reads a_matrix a_other z_newUps z_newDowns z_newNumber z_found z_image z_imagePlace thrown modes products wayKind isImageKnown madeState madeSign newMany imagePower imageMany imageWires F u_1 h_u_1) (cwV 0 ht0 (gV m_442 m_444 (T0_pr (y := ⟨"FermionMapsModel", "states", "()I"⟩) (i := 4) rfl rfl) m_5 m_445) rfl rfl rfl (by decide +kernel) ⟨Nat.le_of_ble_eq_true rfl, Nat.le_of_ble_eq_true rfl⟩) hK hNW hP [0] rfl (ci := 4) (q0 := 0) rfl rfl rfl hl.1 rfl (Nat.le_of_ble_eq_true rfl) d_Mo_multiply_6 ⟨Nat.zero_le _, Nat.zero_le _⟩) ?_
      refine lv_icmp_ge (tgt := 51) hx hb d_Mo_multiply_9 (by decide) (fun c_2 => ?_) (fun c_2 => ?_)
      · replace hf := if_t c_2 hf
        refine lv_iconst (v := 0) hx hb d_Mo_multiply_51 (by decide) ?_
        refine lv_istore (lv' := [(4, .int 0), (0, .ref a_p0), (1, .int x1), (2, .int x2), (3, .int x3)]) hx hb d_Mo_multiply_52 hl (by decide) rfl (fun ls hl => ?_)
        exact B_54 F x1 x2 x3 0 madeState madeSign other H locs ls hf hP hD hS (lv_sub hl [1, 2, 3, 4, 0] rfl)
      · replace hf := if_f c_2 hf
        refine lv_iconst (v := 0) hx hb d_Mo_multiply_12 (by decide) ?_
        refine lv_istore (lv' := [(5, .int 0), (0, .ref a_p0), (1, .int x1), (2, .int x2), (3, .int x3), (4, .int x4)]) hx hb d_Mo_multiply_13 hl (by decide) rfl (fun ls hl => ?_)
        exact B_15 (b_Mo_multiply_3 F modes matrix n) ih F x1 x2 x3 x4 0 madeState madeSign other H locs ls hf hP hD hS (lv_sub hl [1, 2, 3, 4, 5, 0] rfl)
  rw [f_Mo_multiply] at hf
  refine lv_iconst (v := 0) hx hb d_Mo_multiply_0 (by decide) ?_
  refine lv_istore (lv' := [(4, .int 0), (0, .ref a_p0), (1, .int p1), (2, .int p2), (3, .int p3)]) hx hb d_Mo_multiply_1 hl (by decide) rfl (fun ls hl => ?_)
  exact B_3 F p1 p2 p3 0 madeState madeSign other s.heap [] ls hf hP hD hS (lv_sub hl [1, 2, 3, 4, 0] rfl)

/-! FermionMapsModel.readOff()Z -/
def b_Mo_readOff_178 (F : Nat) (k_9 : Int32 → Int32 → Int32 → Int32 → Int32 → (Nat → Int32) → (Nat → Int32) → (Nat → Int64) → (Nat → Int64) → Option (Int32 × Int32 × Int32 × Int32 × (Nat → Int32) × (Nat → Int32) × (Nat → Int64) × (Nat → Int64))) (k_19 : Int32 → Int32 → Int32 → Int32 → Int32 → Int32 → (Nat → Int32) → (Nat → Int32) → (Nat → Int64) → (Nat → Int64) → Option (Int32 × Int32 × Int32 × Int32 × (Nat → Int32) × (Nat → Int32) × (Nat → Int64) × (Nat → Int64))) (modes : Int32) (other : Nat → Int64) (x2 : Int32) (x3 : Int32) (s0 : Int32) (madeState : Int32) (madeSign : Int32) (newMany : Int32) (newUps : Nat → Int32) (newDowns : Nat → Int32) (newNumber : Nat → Int64) (found : Nat → Int64) : Option (Int32 × Int32 × Int32 × Int32 × (Nat → Int32) × (Nat → Int32) × (Nat → Int64) × (Nat → Int64)) :=
  nm (x3 + 1 : Int32) fun x3_16 =>
  k_19 s0 x2 x3_16 madeState madeSign newMany newUps newDowns newNumber found
def b_Mo_readOff_177 (F : Nat) (k_9 : Int32 → Int32 → Int32 → Int32 → Int32 → (Nat → Int32) → (Nat → Int32) → (Nat → Int64) → (Nat → Int64) → Option (Int32 × Int32 × Int32 × Int32 × (Nat → Int32) × (Nat → Int32) × (Nat → Int64) × (Nat → Int64))) (k_19 : Int32 → Int32 → Int32 → Int32 → Int32 → Int32 → (Nat → Int32) → (Nat → Int32) → (Nat → Int64) → (Nat → Int64) → Option (Int32 × Int32 × Int32 × Int32 × (Nat → Int32) × (Nat → Int32) × (Nat → Int64) × (Nat → Int64))) (modes : Int32) (other : Nat → Int64) (x2 : Int32) (x3 : Int32) (madeState : Int32) (madeSign : Int32) (newMany : Int32) (newUps : Nat → Int32) (newDowns : Nat → Int32) (newNumber : Nat → Int64) (found : Nat → Int64) : Option (Int32 × Int32 × Int32 × Int32 × (Nat → Int32) × (Nat → Int32) × (Nat → Int64) × (Nat → Int64)) :=
  b_Mo_readOff_178 F k_9 k_19 modes other x2 x3 0 madeState madeSign newMany newUps newDowns newNumber found
def b_Mo_readOff_108 (F : Nat) (k_9 : Int32 → Int32 → Int32 → Int32 → Int32 → (Nat → Int32) → (Nat → Int32) → (Nat → Int64) → (Nat → Int64) → Option (Int32 × Int32 × Int32 × Int32 × (Nat → Int32) × (Nat → Int32) × (Nat → Int64) × (Nat → Int64))) (k_19 : Int32 → Int32 → Int32 → Int32 → Int32 → Int32 → (Nat → Int32) → (Nat → Int32) → (Nat → Int64) → (Nat → Int64) → Option (Int32 × Int32 × Int32 × Int32 × (Nat → Int32) × (Nat → Int32) × (Nat → Int64) × (Nat → Int64))) (k_50 : Int32 → Int32 → Int32 → Int64 → Int32 → Int32 → Int32 → Int32 → Int32 → (Nat → Int32) → (Nat → Int32) → (Nat → Int64) → (Nat → Int64) → Option (Int32 × Int32 × Int32 × Int32 × (Nat → Int32) × (Nat → Int32) × (Nat → Int64) × (Nat → Int64))) (modes : Int32) (other : Nat → Int64) (x1 : Int32) (x2 : Int32) (x3 : Int32) (x4 : Int64) (x6 : Int32) (x7 : Int32) (madeState : Int32) (madeSign : Int32) (newMany : Int32) (newUps : Nat → Int32) (newDowns : Nat → Int32) (newNumber : Nat → Int64) (found : Nat → Int64) : Option (Int32 × Int32 × Int32 × Int32 × (Nat → Int32) × (Nat → Int32) × (Nat → Int64) × (Nat → Int64)) :=
  nm (((x7 - 1) &&& x6) : Int32) fun x7_23 =>
  k_50 x1 x2 x3 x4 x6 x7_23 madeState madeSign newMany newUps newDowns newNumber found
def b_Mo_readOff_50 (F : Nat) (k_9 : Int32 → Int32 → Int32 → Int32 → Int32 → (Nat → Int32) → (Nat → Int32) → (Nat → Int64) → (Nat → Int64) → Option (Int32 × Int32 × Int32 × Int32 × (Nat → Int32) × (Nat → Int32) × (Nat → Int64) × (Nat → Int64))) (k_19 : Int32 → Int32 → Int32 → Int32 → Int32 → Int32 → (Nat → Int32) → (Nat → Int32) → (Nat → Int64) → (Nat → Int64) → Option (Int32 × Int32 × Int32 × Int32 × (Nat → Int32) × (Nat → Int32) × (Nat → Int64) × (Nat → Int64))) (modes : Int32) (other : Nat → Int64) : Nat → Int32 → Int32 → Int32 → Int64 → Int32 → Int32 → Int32 → Int32 → Int32 → (Nat → Int32) → (Nat → Int32) → (Nat → Int64) → (Nat → Int64) → Option (Int32 × Int32 × Int32 × Int32 × (Nat → Int32) × (Nat → Int32) × (Nat → Int64) × (Nat → Int64))
  | 0, _, _, _, _, _, _, _, _, _, _, _, _, _ => none
  | n + 1, x1, x2, x3, x4, x6, x7, madeState, madeSign, newMany, newUps, newDowns, newNumber, found =>
    if x7 ≤ 0 then
      (f_Mo_make F madeState madeSign x2 x3 x3).bind fun u_12 =>
      nm (((u_12.2.2.toInt64) * x4) : Int64) fun t_13 =>
      ckI ((256 * x2) + x3) 65536 <|
      if x1 = 0 then
        b_Mo_readOff_177 F k_9 k_19 modes other x2 x3 u_12.2.1 u_12.2.2 newMany newUps newDowns newNumber (vp_updL found ((256 * x2) + x3).toNatClampNeg t_13)
      else
        nm (((256 * x2) + x3) : Int32) fun t_17 =>
        ckI t_17 65536 <|
        (f_Mo_put F newMany newUps newDowns newNumber x2 x3 ((vp_updL found ((256 * x2) + x3).toNatClampNeg t_13) t_17.toNatClampNeg)).bind fun u_19 =>
        if u_19.1 = 0 then
          b_Mo_readOff_177 F k_9 k_19 modes other x2 x3 u_12.2.1 u_12.2.2 u_19.2.1 u_19.2.2.1 u_19.2.2.2.1 u_19.2.2.2.2 (vp_updL found ((256 * x2) + x3).toNatClampNeg t_13)
        else
          b_Mo_readOff_178 F k_9 k_19 modes other x2 x3 1 u_12.2.1 u_12.2.2 u_19.2.1 u_19.2.2.1 u_19.2.2.2.1 u_19.2.2.2.2 (vp_updL found ((256 * x2) + x3).toNatClampNeg t_13)
    else
      (f_Mo_make F madeState madeSign (x2 &&& (x7 ^^^ (-1))) (x3 &&& (x7 ^^^ (-1))) x3).bind fun u_21 =>
      if u_21.1 = 0 then
        b_Mo_readOff_108 F k_9 k_19 (b_Mo_readOff_50 F k_9 k_19 modes other n) modes other x1 x2 x3 x4 x6 x7 u_21.2.1 u_21.2.2 newMany newUps newDowns newNumber found
      else
        nm (((256 * (x2 &&& (x7 ^^^ (-1)))) + (x3 &&& (x7 ^^^ (-1)))) : Int32) fun t_24 =>
        ckI t_24 65536 <|
        nm ((x4 - ((u_21.2.2.toInt64) * (found t_24.toNatClampNeg))) : Int64) fun x4_26 =>
        b_Mo_readOff_108 F k_9 k_19 (b_Mo_readOff_50 F k_9 k_19 modes other n) modes other x1 x2 x3 x4_26 x6 x7 u_21.2.1 u_21.2.2 newMany newUps newDowns newNumber found
def b_Mo_readOff_19 (F : Nat) (k_9 : Int32 → Int32 → Int32 → Int32 → Int32 → (Nat → Int32) → (Nat → Int32) → (Nat → Int64) → (Nat → Int64) → Option (Int32 × Int32 × Int32 × Int32 × (Nat → Int32) × (Nat → Int32) × (Nat → Int64) × (Nat → Int64))) (modes : Int32) (other : Nat → Int64) : Nat → Int32 → Int32 → Int32 → Int32 → Int32 → Int32 → (Nat → Int32) → (Nat → Int32) → (Nat → Int64) → (Nat → Int64) → Option (Int32 × Int32 × Int32 × Int32 × (Nat → Int32) × (Nat → Int32) × (Nat → Int64) × (Nat → Int64))
  | 0, _, _, _, _, _, _, _, _, _, _ => none
  | n + 1, x1, x2, x3, madeState, madeSign, newMany, newUps, newDowns, newNumber, found =>
    (f_Mo_states F modes).bind fun u_4 =>
    if u_4 ≤ x3 then
      nm (x2 + 1 : Int32) fun x2_6 =>
      k_9 x1 x2_6 madeState madeSign newMany newUps newDowns newNumber found
    else
      nm (((256 * x2) + x3) : Int32) fun t_7 =>
      ckI t_7 65536 <|
      nm ((other t_7.toNatClampNeg) : Int64) fun x4_9 =>
      nm ((x2 &&& x3) : Int32) fun x6_10 =>
      b_Mo_readOff_50 F k_9 (b_Mo_readOff_19 F k_9 modes other n) modes other F x1 x2 x3 x4_9 x6_10 x6_10 madeState madeSign newMany newUps newDowns newNumber found
def b_Mo_readOff_9 (F : Nat) (modes : Int32) (other : Nat → Int64) : Nat → Int32 → Int32 → Int32 → Int32 → Int32 → (Nat → Int32) → (Nat → Int32) → (Nat → Int64) → (Nat → Int64) → Option (Int32 × Int32 × Int32 × Int32 × (Nat → Int32) × (Nat → Int32) × (Nat → Int64) × (Nat → Int64))
  | 0, _, _, _, _, _, _, _, _, _ => none
  | n + 1, x1, x2, madeState, madeSign, newMany, newUps, newDowns, newNumber, found =>
    (f_Mo_states F modes).bind fun u_1 =>
    if u_1 ≤ x2 then
      ckB x1 <|
      some (x1, madeState, madeSign, newMany, newUps, newDowns, newNumber, found)
    else
      b_Mo_readOff_19 F (b_Mo_readOff_9 F modes other n) modes other F x1 x2 0 madeState madeSign newMany newUps newDowns newNumber found
def f_Mo_readOff (F : Nat) (modes : Int32) (madeState : Int32) (madeSign : Int32) (newMany : Int32) (other : Nat → Int64) (newUps : Nat → Int32) (newDowns : Nat → Int32) (newNumber : Nat → Int64) (found : Nat → Int64) : Option (Int32 × Int32 × Int32 × Int32 × (Nat → Int32) × (Nat → Int32) × (Nat → Int64) × (Nat → Int64)) :=
  b_Mo_readOff_9 F modes other F 1 0 madeState madeSign 0 newUps newDowns newNumber found
abbrev rm_Mo_readOff : Room := { frames := 3, cells := 0, slots := 0, locals := 69 }
set_option maxHeartbeats 4000000 in
set_option maxRecDepth 100000 in
theorem c_Mo_readOff (l : Launch) (dC : Nat → ClassId) (dI : Nat → Nat → Nat) (cI cJ : ClassId) (a_p0 a_other a_newUps a_newDowns a_newNumber a_found z_upsOf z_downsOf z_numberOf z_rowOf z_writes z_reads z_matrix z_image z_imagePlace : Nat) (sz : Nat) (thrown : Int32) (modes : Int32) (products : Int32) (wayKind : Int32) (isImageKnown : Int32) (madeState : Int32) (madeSign : Int32) (newMany : Int32) (imagePower : Int32) (imageMany : Int32) (imageWires : Int32) (other : Nat → Int64) (newUps : Nat → Int32) (newDowns : Nat → Int32) (newNumber : Nat → Int64) (found : Nat → Int64) (F : Nat) (u : Int32 × Int32 × Int32 × Int32 × (Nat → Int32) × (Nat → Int32) × (Nat → Int64) × (Nat → Int64)) (hf : f_Mo_readOff F modes madeState madeSign newMany other newUps newDowns newNumber found = some u) : Met l y_Mo_readOff (Cond.code y_Mo_readOff prog_6_method_16_code 8 (some .boolean) :: T0) rm_Mo_readOff (va_Pc [.ref a_p0] (Ww (dC, dI) [(a_p0, .inr (4, [.int thrown, .int modes, .int products, .ref z_upsOf, .ref z_downsOf, .ref z_numberOf, .int wayKind, .ref z_rowOf, .ref z_writes, .ref z_reads, .int isImageKnown, .int madeState, .int madeSign, .ref z_matrix, .ref a_other, .int newMany, .ref a_newUps, .ref a_newDowns, .ref a_newNumber, .ref a_found, .ref z_image, .ref z_imagePlace, .int imagePower, .int imageMany, .int imageWires])), (a_other, .inl (cJ, 65536, .inr (.inl other))), (a_newUps, .inl (cI, 60, .inl newUps)), (a_newDowns, .inl (cI, 60, .inl newDowns)), (a_newNumber, .inl (cJ, 60, .inr (.inl newNumber))), (a_found, .inl (cJ, 65536, .inr (.inl found)))] [(cI, .int), (cJ, .long)] sz)) (va_Qi (fun r (_ : Unit) => r = u.1) (Bw (dC, dI) [(cI, .int), (cJ, .long)] (va_A [(a_p0, .inr (4, [.int thrown, .int modes, .int products, .ref z_upsOf, .ref z_downsOf, .ref z_numberOf, .int wayKind, .ref z_rowOf, .ref z_writes, .ref z_reads, .int isImageKnown, .int madeState, .int madeSign, .ref z_matrix, .ref a_other, .int newMany, .ref a_newUps, .ref a_newDowns, .ref a_newNumber, .ref a_found, .ref z_image, .ref z_imagePlace, .int imagePower, .int imageMany, .int imageWires])), (a_other, .inl (cJ, 65536, .inr (.inl other))), (a_newUps, .inl (cI, 60, .inl newUps)), (a_newDowns, .inl (cI, 60, .inl newDowns)), (a_newNumber, .inl (cJ, 60, .inr (.inl newNumber))), (a_found, .inl (cJ, 65536, .inr (.inl found)))] sz) (fun w1 => w1 = [(a_p0, .inr (4, [.int thrown, .int modes, .int products, .ref z_upsOf, .ref z_downsOf, .ref z_numberOf, .int wayKind, .ref z_rowOf, .ref z_writes, .ref z_reads, .int isImageKnown, .int u.2.1, .int u.2.2.1, .ref z_matrix, .ref a_other, .int u.2.2.2.1, .ref a_newUps, .ref a_newDowns, .ref a_newNumber, .ref a_found, .ref z_image, .ref z_imagePlace, .int imagePower, .int imageMany, .int imageWires])), (a_other, .inl (cJ, 65536, .inr (.inl other))), (a_newUps, .inl (cI, 60, .inl u.2.2.2.2.1)), (a_newDowns, .inl (cI, 60, .inl u.2.2.2.2.2.1)), (a_newNumber, .inl (cJ, 60, .inr (.inl u.2.2.2.2.2.2.1))), (a_found, .inl (cJ, 65536, .inr (.inl u.2.2.2.2.2.2.2)))])) (va_A [(a_p0, .inr (4, [.int thrown, .int modes, .int products, .ref z_upsOf, .ref z_downsOf, .ref z_numberOf, .int wayKind, .ref z_rowOf, .ref z_writes, .ref z_reads, .int isImageKnown, .int madeState, .int madeSign, .ref z_matrix, .ref a_other, .int newMany, .ref a_newUps, .ref a_newDowns, .ref a_newNumber, .ref a_found, .ref z_image, .ref z_imagePlace, .int imagePower, .int imageMany, .int imageWires])), (a_other, .inl (cJ, 65536, .inr (.inl other))), (a_newUps, .inl (cI, 60, .inl newUps)), (a_newDowns, .inl (cI, 60, .inl newDowns)), (a_newNumber, .inl (cJ, 60, .inr (.inl newNumber))), (a_found, .inl (cJ, 65536, .inr (.inl found)))] sz)) 0 0 (va_A [(a_p0, .inr (4, [.int thrown, .int modes, .int products, .ref z_upsOf, .ref z_downsOf, .ref z_numberOf, .int wayKind, .ref z_rowOf, .ref z_writes, .ref z_reads, .int isImageKnown, .int madeState, .int madeSign, .ref z_matrix, .ref a_other, .int newMany, .ref a_newUps, .ref a_newDowns, .ref a_newNumber, .ref a_found, .ref z_image, .ref z_imagePlace, .int imagePower, .int imageMany, .int imageWires])), (a_other, .inl (cJ, 65536, .inr (.inl other))), (a_newUps, .inl (cI, 60, .inl newUps)), (a_newDowns, .inl (cI, 60, .inl newDowns)), (a_newNumber, .inl (cJ, 60, .inr (.inl newNumber))), (a_found, .inl (cJ, 65536, .inr (.inl found)))] sz) := by
  refine Met.ofW (cc := prog_6_method_16_code) (maxL := 8) (ret := (some .boolean)) (by decide) rfl ?_
  intro p e s m args below meth c s₁ B hml hv
  obtain ⟨rfl, hsz, hP, hK, hD0, hNW⟩ := hv
  have hx := B.exec
  have hb := B.bytes
  have hr := B.returns
  have hts := atoms_spec (ws := Cond.code y_Mo_readOff prog_6_method_16_code 8 (some .boolean) :: T0) B.pre
  have ht0 : ∀ w ∈ T0, w.before ([.ref a_p0] : List Value).toArray s = true := fun w h => hts w (List.mem_cons_of_mem _ h)
  have hown : s.vm.findClass "FermionMapsModel" = some m.cls := findClass_of_methodNamed B.named
  have hlocks := B.notSynchronized
  subst hsz
  have hD := hD0.self (sz := s.heap.size)
  generalize hAe : va_A [(a_p0, .inr (4, [.int thrown, .int modes, .int products, .ref z_upsOf, .ref z_downsOf, .ref z_numberOf, .int wayKind, .ref z_rowOf, .ref z_writes, .ref z_reads, .int isImageKnown, .int madeState, .int madeSign, .ref z_matrix, .ref a_other, .int newMany, .ref a_newUps, .ref a_newDowns, .ref a_newNumber, .ref a_found, .ref z_image, .ref z_imagePlace, .int imagePower, .int imageMany, .int imageWires])), (a_other, .inl (cJ, 65536, .inr (.inl other))), (a_newUps, .inl (cI, 60, .inl newUps)), (a_newDowns, .inl (cI, 60, .inl newDowns)), (a_newNumber, .inl (cJ, 60, .inr (.inl newNumber))), (a_found, .inl (cJ, 65536, .inr (.inl found)))] s.heap.size = A at hD ⊢
  have hA : ∀ q : Nat, s.heap.size ≤ q → A q := fun q h => by rw [← hAe]; exact Or.inr h
  have hS : va_S A s.heap s.heap [] := va_S.rf
  have hl := lv_entry ([.ref a_p0]) (n := 8) (Nat.le_of_ble_eq_true rfl)
  rw [lg_entry_eq]
  generalize (lg_sl ([.ref a_p0]) ++ List.replicate (8 - (lg_sl ([.ref a_p0])).length) Slot.unset).toArray = ls at hl ⊢
  have hl : lv_has ls 8 [(0, .ref a_p0)] := hl
  refine W.nameQ (fun Q hQ => ?_)
  have B_178 : ∀ (k_9 : Int32 → Int32 → Int32 → Int32 → Int32 → (Nat → Int32) → (Nat → Int32) → (Nat → Int64) → (Nat → Int64) → Option (Int32 × Int32 × Int32 × Int32 × (Nat → Int32) × (Nat → Int32) × (Nat → Int64) × (Nat → Int64))) (hk_9 : ∀ (x1 : Int32) (x2 : Int32) (madeState : Int32) (madeSign : Int32) (newMany : Int32) (newUps : Nat → Int32) (newDowns : Nat → Int32) (newNumber : Nat → Int64) (found : Nat → Int64) (H : Heap) (locs : List Loc) (ls : Array Slot), k_9 x1 x2 madeState madeSign newMany newUps newDowns newNumber found = some u → va_P (dC, dI) cls [(a_p0, .inr (4, [.int thrown, .int modes, .int products, .ref z_upsOf, .ref z_downsOf, .ref z_numberOf, .int wayKind, .ref z_rowOf, .ref z_writes, .ref z_reads, .int isImageKnown, .int madeState, .int madeSign, .ref z_matrix, .ref a_other, .int newMany, .ref a_newUps, .ref a_newDowns, .ref a_newNumber, .ref a_found, .ref z_image, .ref z_imagePlace, .int imagePower, .int imageMany, .int imageWires])), (a_other, .inl (cJ, 65536, .inr (.inl other))), (a_newUps, .inl (cI, 60, .inl newUps)), (a_newDowns, .inl (cI, 60, .inl newDowns)), (a_newNumber, .inl (cJ, 60, .inr (.inl newNumber))), (a_found, .inl (cJ, 65536, .inr (.inl found)))] H → va_D A [(a_p0, .inr (4, [.int thrown, .int modes, .int products, .ref z_upsOf, .ref z_downsOf, .ref z_numberOf, .int wayKind, .ref z_rowOf, .ref z_writes, .ref z_reads, .int isImageKnown, .int madeState, .int madeSign, .ref z_matrix, .ref a_other, .int newMany, .ref a_newUps, .ref a_newDowns, .ref a_newNumber, .ref a_found, .ref z_image, .ref z_imagePlace, .int imagePower, .int imageMany, .int imageWires])), (a_other, .inl (cJ, 65536, .inr (.inl other))), (a_newUps, .inl (cI, 60, .inl newUps)), (a_newDowns, .inl (cI, 60, .inl newDowns)), (a_newNumber, .inl (cJ, 60, .inr (.inl newNumber))), (a_found, .inl (cJ, 65536, .inr (.inl found)))] → va_S A s.heap H locs → lv_has ls 8 [(0, .ref a_p0), (1, .int x1), (2, .int x2)] → W p l e (headSpec (Cond.code y_Mo_readOff prog_6_method_16_code 8 (some .boolean) :: T0) rm_Mo_readOff).room s m ([.ref a_p0] : List Value).toArray below meth c H locs 0 0 Q (F0 m 9 ls [])) (k_19 : Int32 → Int32 → Int32 → Int32 → Int32 → Int32 → (Nat → Int32) → (Nat → Int32) → (Nat → Int64) → (Nat → Int64) → Option (Int32 × Int32 × Int32 × Int32 × (Nat → Int32) × (Nat → Int32) × (Nat → Int64) × (Nat → Int64))) (hk_19 : ∀ (x1 : Int32) (x2 : Int32) (x3 : Int32) (madeState : Int32) (madeSign : Int32) (newMany : Int32) (newUps : Nat → Int32) (newDowns : Nat → Int32) (newNumber : Nat → Int64) (found : Nat → Int64) (H : Heap) (locs : List Loc) (ls : Array Slot), k_19 x1 x2 x3 madeState madeSign newMany newUps newDowns newNumber found = some u → va_P (dC, dI) cls [(a_p0, .inr (4, [.int thrown, .int modes, .int products, .ref z_upsOf, .ref z_downsOf, .ref z_numberOf, .int wayKind, .ref z_rowOf, .ref z_writes, .ref z_reads, .int isImageKnown, .int madeState, .int madeSign, .ref z_matrix, .ref a_other, .int newMany, .ref a_newUps, .ref a_newDowns, .ref a_newNumber, .ref a_found, .ref z_image, .ref z_imagePlace, .int imagePower, .int imageMany, .int imageWires])), (a_other, .inl (cJ, 65536, .inr (.inl other))), (a_newUps, .inl (cI, 60, .inl newUps)), (a_newDowns, .inl (cI, 60, .inl newDowns)), (a_newNumber, .inl (cJ, 60, .inr (.inl newNumber))), (a_found, .inl (cJ, 65536, .inr (.inl found)))] H → va_D A [(a_p0, .inr (4, [.int thrown, .int modes, .int products, .ref z_upsOf, .ref z_downsOf, .ref z_numberOf, .int wayKind, .ref z_rowOf, .ref z_writes, .ref z_reads, .int isImageKnown, .int madeState, .int madeSign, .ref z_matrix, .ref a_other, .int newMany, .ref a_newUps, .ref a_newDowns, .ref a_newNumber, .ref a_found, .ref z_image, .ref z_imagePlace, .int imagePower, .int imageMany, .int imageWires])), (a_other, .inl (cJ, 65536, .inr (.inl other))), (a_newUps, .inl (cI, 60, .inl newUps)), (a_newDowns, .inl (cI, 60, .inl newDowns)), (a_newNumber, .inl (cJ, 60, .inr (.inl newNumber))), (a_found, .inl (cJ, 65536, .inr (.inl found)))] → va_S A s.heap H locs → lv_has ls 8 [(0, .ref a_p0), (1, .int x1), (2, .int x2), (3, .int x3)] → W p l e (headSpec (Cond.code y_Mo_readOff prog_6_method_16_code 8 (some .boolean) :: T0) rm_Mo_readOff).room s m ([.ref a_p0] : List Value).toArray below meth c H locs 0 0 Q (F0 m 19 ls [])), ∀ (x2 : Int32) (x3 : Int32) (s0 : Int32) (madeState : Int32) (madeSign : Int32) (newMany : Int32) (newUps : Nat → Int32) (newDowns : Nat → Int32) (newNumber : Nat → Int64) (found : Nat → Int64) (H : Heap) (locs : List Loc) (ls : Array Slot), b_Mo_readOff_178 F k_9 k_19 modes other x2 x3 s0 madeState madeSign newMany newUps newDowns newNumber found = some u → va_P (dC, dI) cls [(a_p0, .inr (4, [.int thrown, .int modes, .int products, .ref z_upsOf, .ref z_downsOf, .ref z_numberOf, .int wayKind, .ref z_rowOf, .ref z_writes, .ref z_reads, .int isImageKnown, .int madeState, .int madeSign, .ref z_matrix, .ref a_other, .int newMany, .ref a_newUps, .ref a_newDowns, .ref a_newNumber, .ref a_found, .ref z_image, .ref z_imagePlace, .int imagePower, .int imageMany, .int imageWires])), (a_other, .inl (cJ, 65536, .inr (.inl other))), (a_newUps, .inl (cI, 60, .inl newUps)), (a_newDowns, .inl (cI, 60, .inl newDowns)), (a_newNumber, .inl (cJ, 60, .inr (.inl newNumber))), (a_found, .inl (cJ, 65536, .inr (.inl found)))] H → va_D A [(a_p0, .inr (4, [.int thrown, .int modes, .int products, .ref z_upsOf, .ref z_downsOf, .ref z_numberOf, .int wayKind, .ref z_rowOf, .ref z_writes, .ref z_reads, .int isImageKnown, .int madeState, .int madeSign, .ref z_matrix, .ref a_other, .int newMany, .ref a_newUps, .ref a_newDowns, .ref a_newNumber, .ref a_found, .ref z_image, .ref z_imagePlace, .int imagePower, .int imageMany, .int imageWires])), (a_other, .inl (cJ, 65536, .inr (.inl other))), (a_newUps, .inl (cI, 60, .inl newUps)), (a_newDowns, .inl (cI, 60, .inl newDowns)), (a_newNumber, .inl (cJ, 60, .inr (.inl newNumber))), (a_found, .inl (cJ, 65536, .inr (.inl found)))] → va_S A s.heap H locs → lv_has ls 8 [(0, .ref a_p0), (2, .int x2), (3, .int x3)] → W p l e (headSpec (Cond.code y_Mo_readOff prog_6_method_16_code 8 (some .boolean) :: T0) rm_Mo_readOff).room s m ([.ref a_p0] : List Value).toArray below meth c H locs 0 0 Q (F0 m 178 ls [.int s0]) := by
    intro k_9 hk_9 k_19 hk_19
    intro x2 x3 s0 madeState madeSign newMany newUps newDowns newNumber found H locs ls hf hP hD hS hl
    rw [b_Mo_readOff_178] at hf
    refine lv_istore_n (lv' := [(1, .int s0), (0, .ref a_p0), (2, .int x2), (3, .int x3)]) hx hb d_Mo_readOff_178 rfl hl (by decide) rfl (fun ls hl => ?_)
    obtain ⟨x3_16, e_x3_16⟩ : ∃ y : Int32, y = x3 + 1 := ⟨_, rfl⟩
    replace hf := nm_eq e_x3_16 hf
    refine lv_iinc (v := x3_16) (lv' := [(3, .int x3_16), (1, .int s0), (0, .ref a_p0), (2, .int x2)]) hx hb d_Mo_readOff_179 hl (k := 3) rfl (by rw [e_x3_16]; rfl) (by decide) rfl (fun ls hl => ?_)
    refine lv_goto (tgt := 19) hx hb d_Mo_readOff_182 (by decide) ?_
    exact hk_19 s0 x2 x3_16 madeState madeSign newMany newUps newDowns newNumber found H locs ls hf hP hD hS (lv_sub hl [2, 1, 3, 0] rfl)
  have B_177 : ∀ (k_9 : Int32 → Int32 → Int32 → Int32 → Int32 → (Nat → Int32) → (Nat → Int32) → (Nat → Int64) → (Nat → Int64) → Option (Int32 × Int32 × Int32 × Int32 × (Nat → Int32) × (Nat → Int32) × (Nat → Int64) × (Nat → Int64))) (hk_9 : ∀ (x1 : Int32) (x2 : Int32) (madeState : Int32) (madeSign : Int32) (newMany : Int32) (newUps : Nat → Int32) (newDowns : Nat → Int32) (newNumber : Nat → Int64) (found : Nat → Int64) (H : Heap) (locs : List Loc) (ls : Array Slot), k_9 x1 x2 madeState madeSign newMany newUps newDowns newNumber found = some u → va_P (dC, dI) cls [(a_p0, .inr (4, [.int thrown, .int modes, .int products, .ref z_upsOf, .ref z_downsOf, .ref z_numberOf, .int wayKind, .ref z_rowOf, .ref z_writes, .ref z_reads, .int isImageKnown, .int madeState, .int madeSign, .ref z_matrix, .ref a_other, .int newMany, .ref a_newUps, .ref a_newDowns, .ref a_newNumber, .ref a_found, .ref z_image, .ref z_imagePlace, .int imagePower, .int imageMany, .int imageWires])), (a_other, .inl (cJ, 65536, .inr (.inl other))), (a_newUps, .inl (cI, 60, .inl newUps)), (a_newDowns, .inl (cI, 60, .inl newDowns)), (a_newNumber, .inl (cJ, 60, .inr (.inl newNumber))), (a_found, .inl (cJ, 65536, .inr (.inl found)))] H → va_D A [(a_p0, .inr (4, [.int thrown, .int modes, .int products, .ref z_upsOf, .ref z_downsOf, .ref z_numberOf, .int wayKind, .ref z_rowOf, .ref z_writes, .ref z_reads, .int isImageKnown, .int madeState, .int madeSign, .ref z_matrix, .ref a_other, .int newMany, .ref a_newUps, .ref a_newDowns, .ref a_newNumber, .ref a_found, .ref z_image, .ref z_imagePlace, .int imagePower, .int imageMany, .int imageWires])), (a_other, .inl (cJ, 65536, .inr (.inl other))), (a_newUps, .inl (cI, 60, .inl newUps)), (a_newDowns, .inl (cI, 60, .inl newDowns)), (a_newNumber, .inl (cJ, 60, .inr (.inl newNumber))), (a_found, .inl (cJ, 65536, .inr (.inl found)))] → va_S A s.heap H locs → lv_has ls 8 [(0, .ref a_p0), (1, .int x1), (2, .int x2)] → W p l e (headSpec (Cond.code y_Mo_readOff prog_6_method_16_code 8 (some .boolean) :: T0) rm_Mo_readOff).room s m ([.ref a_p0] : List Value).toArray below meth c H locs 0 0 Q (F0 m 9 ls [])) (k_19 : Int32 → Int32 → Int32 → Int32 → Int32 → Int32 → (Nat → Int32) → (Nat → Int32) → (Nat → Int64) → (Nat → Int64) → Option (Int32 × Int32 × Int32 × Int32 × (Nat → Int32) × (Nat → Int32) × (Nat → Int64) × (Nat → Int64))) (hk_19 : ∀ (x1 : Int32) (x2 : Int32) (x3 : Int32) (madeState : Int32) (madeSign : Int32) (newMany : Int32) (newUps : Nat → Int32) (newDowns : Nat → Int32) (newNumber : Nat → Int64) (found : Nat → Int64) (H : Heap) (locs : List Loc) (ls : Array Slot), k_19 x1 x2 x3 madeState madeSign newMany newUps newDowns newNumber found = some u → va_P (dC, dI) cls [(a_p0, .inr (4, [.int thrown, .int modes, .int products, .ref z_upsOf, .ref z_downsOf, .ref z_numberOf, .int wayKind, .ref z_rowOf, .ref z_writes, .ref z_reads, .int isImageKnown, .int madeState, .int madeSign, .ref z_matrix, .ref a_other, .int newMany, .ref a_newUps, .ref a_newDowns, .ref a_newNumber, .ref a_found, .ref z_image, .ref z_imagePlace, .int imagePower, .int imageMany, .int imageWires])), (a_other, .inl (cJ, 65536, .inr (.inl other))), (a_newUps, .inl (cI, 60, .inl newUps)), (a_newDowns, .inl (cI, 60, .inl newDowns)), (a_newNumber, .inl (cJ, 60, .inr (.inl newNumber))), (a_found, .inl (cJ, 65536, .inr (.inl found)))] H → va_D A [(a_p0, .inr (4, [.int thrown, .int modes, .int products, .ref z_upsOf, .ref z_downsOf, .ref z_numberOf, .int wayKind, .ref z_rowOf, .ref z_writes, .ref z_reads, .int isImageKnown, .int madeState, .int madeSign, .ref z_matrix, .ref a_other, .int newMany, .ref a_newUps, .ref a_newDowns, .ref a_newNumber, .ref a_found, .ref z_image, .ref z_imagePlace, .int imagePower, .int imageMany, .int imageWires])), (a_other, .inl (cJ, 65536, .inr (.inl other))), (a_newUps, .inl (cI, 60, .inl newUps)), (a_newDowns, .inl (cI, 60, .inl newDowns)), (a_newNumber, .inl (cJ, 60, .inr (.inl newNumber))), (a_found, .inl (cJ, 65536, .inr (.inl found)))] → va_S A s.heap H locs → lv_has ls 8 [(0, .ref a_p0), (1, .int x1), (2, .int x2), (3, .int x3)] → W p l e (headSpec (Cond.code y_Mo_readOff prog_6_method_16_code 8 (some .boolean) :: T0) rm_Mo_readOff).room s m ([.ref a_p0] : List Value).toArray below meth c H locs 0 0 Q (F0 m 19 ls [])), ∀ (x2 : Int32) (x3 : Int32) (madeState : Int32) (madeSign : Int32) (newMany : Int32) (newUps : Nat → Int32) (newDowns : Nat → Int32) (newNumber : Nat → Int64) (found : Nat → Int64) (H : Heap) (locs : List Loc) (ls : Array Slot), b_Mo_readOff_177 F k_9 k_19 modes other x2 x3 madeState madeSign newMany newUps newDowns newNumber found = some u → va_P (dC, dI) cls [(a_p0, .inr (4, [.int thrown, .int modes, .int products, .ref z_upsOf, .ref z_downsOf, .ref z_numberOf, .int wayKind, .ref z_rowOf, .ref z_writes, .ref z_reads, .int isImageKnown, .int madeState, .int madeSign, .ref z_matrix, .ref a_other, .int newMany, .ref a_newUps, .ref a_newDowns, .ref a_newNumber, .ref a_found, .ref z_image, .ref z_imagePlace, .int imagePower, .int imageMany, .int imageWires])), (a_other, .inl (cJ, 65536, .inr (.inl other))), (a_newUps, .inl (cI, 60, .inl newUps)), (a_newDowns, .inl (cI, 60, .inl newDowns)), (a_newNumber, .inl (cJ, 60, .inr (.inl newNumber))), (a_found, .inl (cJ, 65536, .inr (.inl found)))] H → va_D A [(a_p0, .inr (4, [.int thrown, .int modes, .int products, .ref z_upsOf, .ref z_downsOf, .ref z_numberOf, .int wayKind, .ref z_rowOf, .ref z_writes, .ref z_reads, .int isImageKnown, .int madeState, .int madeSign, .ref z_matrix, .ref a_other, .int newMany, .ref a_newUps, .ref a_newDowns, .ref a_newNumber, .ref a_found, .ref z_image, .ref z_imagePlace, .int imagePower, .int imageMany, .int imageWires])), (a_other, .inl (cJ, 65536, .inr (.inl other))), (a_newUps, .inl (cI, 60, .inl newUps)), (a_newDowns, .inl (cI, 60, .inl newDowns)), (a_newNumber, .inl (cJ, 60, .inr (.inl newNumber))), (a_found, .inl (cJ, 65536, .inr (.inl found)))] → va_S A s.heap H locs → lv_has ls 8 [(0, .ref a_p0), (2, .int x2), (3, .int x3)] → W p l e (headSpec (Cond.code y_Mo_readOff prog_6_method_16_code 8 (some .boolean) :: T0) rm_Mo_readOff).room s m ([.ref a_p0] : List Value).toArray below meth c H locs 0 0 Q (F0 m 177 ls []) := by
    intro k_9 hk_9 k_19 hk_19
    intro x2 x3 madeState madeSign newMany newUps newDowns newNumber found H locs ls hf hP hD hS hl
    rw [b_Mo_readOff_177] at hf
    refine lv_iconst (v := 0) hx hb d_Mo_readOff_177 (by decide) ?_
    exact B_178 k_9 hk_9 k_19 hk_19 x2 x3 0 madeState madeSign newMany newUps newDowns newNumber found H locs ls hf hP hD hS (lv_sub hl [0, 1, 2] rfl)
  have B_108 : ∀ (k_9 : Int32 → Int32 → Int32 → Int32 → Int32 → (Nat → Int32) → (Nat → Int32) → (Nat → Int64) → (Nat → Int64) → Option (Int32 × Int32 × Int32 × Int32 × (Nat → Int32) × (Nat → Int32) × (Nat → Int64) × (Nat → Int64))) (hk_9 : ∀ (x1 : Int32) (x2 : Int32) (madeState : Int32) (madeSign : Int32) (newMany : Int32) (newUps : Nat → Int32) (newDowns : Nat → Int32) (newNumber : Nat → Int64) (found : Nat → Int64) (H : Heap) (locs : List Loc) (ls : Array Slot), k_9 x1 x2 madeState madeSign newMany newUps newDowns newNumber found = some u → va_P (dC, dI) cls [(a_p0, .inr (4, [.int thrown, .int modes, .int products, .ref z_upsOf, .ref z_downsOf, .ref z_numberOf, .int wayKind, .ref z_rowOf, .ref z_writes, .ref z_reads, .int isImageKnown, .int madeState, .int madeSign, .ref z_matrix, .ref a_other, .int newMany, .ref a_newUps, .ref a_newDowns, .ref a_newNumber, .ref a_found, .ref z_image, .ref z_imagePlace, .int imagePower, .int imageMany, .int imageWires])), (a_other, .inl (cJ, 65536, .inr (.inl other))), (a_newUps, .inl (cI, 60, .inl newUps)), (a_newDowns, .inl (cI, 60, .inl newDowns)), (a_newNumber, .inl (cJ, 60, .inr (.inl newNumber))), (a_found, .inl (cJ, 65536, .inr (.inl found)))] H → va_D A [(a_p0, .inr (4, [.int thrown, .int modes, .int products, .ref z_upsOf, .ref z_downsOf, .ref z_numberOf, .int wayKind, .ref z_rowOf, .ref z_writes, .ref z_reads, .int isImageKnown, .int madeState, .int madeSign, .ref z_matrix, .ref a_other, .int newMany, .ref a_newUps, .ref a_newDowns, .ref a_newNumber, .ref a_found, .ref z_image, .ref z_imagePlace, .int imagePower, .int imageMany, .int imageWires])), (a_other, .inl (cJ, 65536, .inr (.inl other))), (a_newUps, .inl (cI, 60, .inl newUps)), (a_newDowns, .inl (cI, 60, .inl newDowns)), (a_newNumber, .inl (cJ, 60, .inr (.inl newNumber))), (a_found, .inl (cJ, 65536, .inr (.inl found)))] → va_S A s.heap H locs → lv_has ls 8 [(0, .ref a_p0), (1, .int x1), (2, .int x2)] → W p l e (headSpec (Cond.code y_Mo_readOff prog_6_method_16_code 8 (some .boolean) :: T0) rm_Mo_readOff).room s m ([.ref a_p0] : List Value).toArray below meth c H locs 0 0 Q (F0 m 9 ls [])) (k_19 : Int32 → Int32 → Int32 → Int32 → Int32 → Int32 → (Nat → Int32) → (Nat → Int32) → (Nat → Int64) → (Nat → Int64) → Option (Int32 × Int32 × Int32 × Int32 × (Nat → Int32) × (Nat → Int32) × (Nat → Int64) × (Nat → Int64))) (hk_19 : ∀ (x1 : Int32) (x2 : Int32) (x3 : Int32) (madeState : Int32) (madeSign : Int32) (newMany : Int32) (newUps : Nat → Int32) (newDowns : Nat → Int32) (newNumber : Nat → Int64) (found : Nat → Int64) (H : Heap) (locs : List Loc) (ls : Array Slot), k_19 x1 x2 x3 madeState madeSign newMany newUps newDowns newNumber found = some u → va_P (dC, dI) cls [(a_p0, .inr (4, [.int thrown, .int modes, .int products, .ref z_upsOf, .ref z_downsOf, .ref z_numberOf, .int wayKind, .ref z_rowOf, .ref z_writes, .ref z_reads, .int isImageKnown, .int madeState, .int madeSign, .ref z_matrix, .ref a_other, .int newMany, .ref a_newUps, .ref a_newDowns, .ref a_newNumber, .ref a_found, .ref z_image, .ref z_imagePlace, .int imagePower, .int imageMany, .int imageWires])), (a_other, .inl (cJ, 65536, .inr (.inl other))), (a_newUps, .inl (cI, 60, .inl newUps)), (a_newDowns, .inl (cI, 60, .inl newDowns)), (a_newNumber, .inl (cJ, 60, .inr (.inl newNumber))), (a_found, .inl (cJ, 65536, .inr (.inl found)))] H → va_D A [(a_p0, .inr (4, [.int thrown, .int modes, .int products, .ref z_upsOf, .ref z_downsOf, .ref z_numberOf, .int wayKind, .ref z_rowOf, .ref z_writes, .ref z_reads, .int isImageKnown, .int madeState, .int madeSign, .ref z_matrix, .ref a_other, .int newMany, .ref a_newUps, .ref a_newDowns, .ref a_newNumber, .ref a_found, .ref z_image, .ref z_imagePlace, .int imagePower, .int imageMany, .int imageWires])), (a_other, .inl (cJ, 65536, .inr (.inl other))), (a_newUps, .inl (cI, 60, .inl newUps)), (a_newDowns, .inl (cI, 60, .inl newDowns)), (a_newNumber, .inl (cJ, 60, .inr (.inl newNumber))), (a_found, .inl (cJ, 65536, .inr (.inl found)))] → va_S A s.heap H locs → lv_has ls 8 [(0, .ref a_p0), (1, .int x1), (2, .int x2), (3, .int x3)] → W p l e (headSpec (Cond.code y_Mo_readOff prog_6_method_16_code 8 (some .boolean) :: T0) rm_Mo_readOff).room s m ([.ref a_p0] : List Value).toArray below meth c H locs 0 0 Q (F0 m 19 ls [])) (k_50 : Int32 → Int32 → Int32 → Int64 → Int32 → Int32 → Int32 → Int32 → Int32 → (Nat → Int32) → (Nat → Int32) → (Nat → Int64) → (Nat → Int64) → Option (Int32 × Int32 × Int32 × Int32 × (Nat → Int32) × (Nat → Int32) × (Nat → Int64) × (Nat → Int64))) (hk_50 : ∀ (x1 : Int32) (x2 : Int32) (x3 : Int32) (x4 : Int64) (x6 : Int32) (x7 : Int32) (madeState : Int32) (madeSign : Int32) (newMany : Int32) (newUps : Nat → Int32) (newDowns : Nat → Int32) (newNumber : Nat → Int64) (found : Nat → Int64) (H : Heap) (locs : List Loc) (ls : Array Slot), k_50 x1 x2 x3 x4 x6 x7 madeState madeSign newMany newUps newDowns newNumber found = some u → va_P (dC, dI) cls [(a_p0, .inr (4, [.int thrown, .int modes, .int products, .ref z_upsOf, .ref z_downsOf, .ref z_numberOf, .int wayKind, .ref z_rowOf, .ref z_writes, .ref z_reads, .int isImageKnown, .int madeState, .int madeSign, .ref z_matrix, .ref a_other, .int newMany, .ref a_newUps, .ref a_newDowns, .ref a_newNumber, .ref a_found, .ref z_image, .ref z_imagePlace, .int imagePower, .int imageMany, .int imageWires])), (a_other, .inl (cJ, 65536, .inr (.inl other))), (a_newUps, .inl (cI, 60, .inl newUps)), (a_newDowns, .inl (cI, 60, .inl newDowns)), (a_newNumber, .inl (cJ, 60, .inr (.inl newNumber))), (a_found, .inl (cJ, 65536, .inr (.inl found)))] H → va_D A [(a_p0, .inr (4, [.int thrown, .int modes, .int products, .ref z_upsOf, .ref z_downsOf, .ref z_numberOf, .int wayKind, .ref z_rowOf, .ref z_writes, .ref z_reads, .int isImageKnown, .int madeState, .int madeSign, .ref z_matrix, .ref a_other, .int newMany, .ref a_newUps, .ref a_newDowns, .ref a_newNumber, .ref a_found, .ref z_image, .ref z_imagePlace, .int imagePower, .int imageMany, .int imageWires])), (a_other, .inl (cJ, 65536, .inr (.inl other))), (a_newUps, .inl (cI, 60, .inl newUps)), (a_newDowns, .inl (cI, 60, .inl newDowns)), (a_newNumber, .inl (cJ, 60, .inr (.inl newNumber))), (a_found, .inl (cJ, 65536, .inr (.inl found)))] → va_S A s.heap H locs → lv_has ls 8 [(0, .ref a_p0), (1, .int x1), (2, .int x2), (3, .int x3), (4, .long x4), (6, .int x6), (7, .int x7)] → W p l e (headSpec (Cond.code y_Mo_readOff prog_6_method_16_code 8 (some .boolean) :: T0) rm_Mo_readOff).room s m ([.ref a_p0] : List Value).toArray below meth c H locs 0 0 Q (F0 m 50 ls [])), ∀ (x1 : Int32) (x2 : Int32) (x3 : Int32) (x4 : Int64) (x6 : Int32) (x7 : Int32) (madeState : Int32) (madeSign : Int32) (newMany : Int32) (newUps : Nat → Int32) (newDowns : Nat → Int32) (newNumber : Nat → Int64) (found : Nat → Int64) (H : Heap) (locs : List Loc) (ls : Array Slot), b_Mo_readOff_108 F k_9 k_19 k_50 modes other x1 x2 x3 x4 x6 x7 madeState madeSign newMany newUps newDowns newNumber found = some u → va_P (dC, dI) cls [(a_p0, .inr (4, [.int thrown, .int modes, .int products, .ref z_upsOf, .ref z_downsOf, .ref z_numberOf, .int wayKind, .ref z_rowOf, .ref z_writes, .ref z_reads, .int isImageKnown, .int madeState, .int madeSign, .ref z_matrix, .ref a_other, .int newMany, .ref a_newUps, .ref a_newDowns, .ref a_newNumber, .ref a_found, .ref z_image, .ref z_imagePlace, .int imagePower, .int imageMany, .int imageWires])), (a_other, .inl (cJ, 65536, .inr (.inl other))), (a_newUps, .inl (cI, 60, .inl newUps)), (a_newDowns, .inl (cI, 60, .inl newDowns)), (a_newNumber, .inl (cJ, 60, .inr (.inl newNumber))), (a_found, .inl (cJ, 65536, .inr (.inl found)))] H → va_D A [(a_p0, .inr (4, [.int thrown, .int modes, .int products, .ref z_upsOf, .ref z_downsOf, .ref z_numberOf, .int wayKind, .ref z_rowOf, .ref z_writes, .ref z_reads, .int isImageKnown, .int madeState, .int madeSign, .ref z_matrix, .ref a_other, .int newMany, .ref a_newUps, .ref a_newDowns, .ref a_newNumber, .ref a_found, .ref z_image, .ref z_imagePlace, .int imagePower, .int imageMany, .int imageWires])), (a_other, .inl (cJ, 65536, .inr (.inl other))), (a_newUps, .inl (cI, 60, .inl newUps)), (a_newDowns, .inl (cI, 60, .inl newDowns)), (a_newNumber, .inl (cJ, 60, .inr (.inl newNumber))), (a_found, .inl (cJ, 65536, .inr (.inl found)))] → va_S A s.heap H locs → lv_has ls 8 [(0, .ref a_p0), (1, .int x1), (2, .int x2), (3, .int x3), (4, .long x4), (6, .int x6), (7, .int x7)] → W p l e (headSpec (Cond.code y_Mo_readOff prog_6_method_16_code 8 (some .boolean) :: T0) rm_Mo_readOff).room s m ([.ref a_p0] : List Value).toArray below meth c H locs 0 0 Q (F0 m 108 ls []) := by
    intro k_9 hk_9 k_19 hk_19 k_50 hk_50
    intro x1 x2 x3 x4 x6 x7 madeState madeSign newMany newUps newDowns newNumber found H locs ls hf hP hD hS hl
    rw [b_Mo_readOff_108] at hf
    refine lv_iload hx hb d_Mo_readOff_108 (lv_at hl 6 rfl) ?_
    refine lv_iconst (v := 1) hx hb d_Mo_readOff_110 (by decide) ?_
    refine lv_isub hx hb d_Mo_readOff_111 ?_
    refine lv_iload hx hb d_Mo_readOff_112 (lv_at hl 5 rfl) ?_
    refine lv_iand hx hb d_Mo_readOff_114 ?_
    refine lv_topi (fun x7_23 e_x7_23 => ?_)
    replace hf := nm_eq e_x7_23 hf
    refine lv_istore (lv' := [(7, .int x7_23), (0, .ref a_p0), (1, .int x1), (2, .int x2), (3, .int x3), (4, .long x4), (6, .int x6)]) hx hb d_Mo_readOff_115 hl (by decide) rfl (fun ls hl => ?_)
    refine lv_goto (tgt := 50) hx hb d_Mo_readOff_117 (by decide) ?_
    exact hk_50 x1 x2 x3 x4 x6 x7_23 madeState madeSign newMany newUps newDowns newNumber found H locs ls hf hP hD hS (lv_sub hl [1, 2, 3, 4, 5, 6, 0] rfl)
  have B_50 : ∀ (k_9 : Int32 → Int32 → Int32 → Int32 → Int32 → (Nat → Int32) → (Nat → Int32) → (Nat → Int64) → (Nat → Int64) → Option (Int32 × Int32 × Int32 × Int32 × (Nat → Int32) × (Nat → Int32) × (Nat → Int64) × (Nat → Int64))) (hk_9 : ∀ (x1 : Int32) (x2 : Int32) (madeState : Int32) (madeSign : Int32) (newMany : Int32) (newUps : Nat → Int32) (newDowns : Nat → Int32) (newNumber : Nat → Int64) (found : Nat → Int64) (H : Heap) (locs : List Loc) (ls : Array Slot), k_9 x1 x2 madeState madeSign newMany newUps newDowns newNumber found = some u → va_P (dC, dI) cls [(a_p0, .inr (4, [.int thrown, .int modes, .int products, .ref z_upsOf, .ref z_downsOf, .ref z_numberOf, .int wayKind, .ref z_rowOf, .ref z_writes, .ref z_reads, .int isImageKnown, .int madeState, .int madeSign, .ref z_matrix, .ref a_other, .int newMany, .ref a_newUps, .ref a_newDowns, .ref a_newNumber, .ref a_found, .ref z_image, .ref z_imagePlace, .int imagePower, .int imageMany, .int imageWires])), (a_other, .inl (cJ, 65536, .inr (.inl other))), (a_newUps, .inl (cI, 60, .inl newUps)), (a_newDowns, .inl (cI, 60, .inl newDowns)), (a_newNumber, .inl (cJ, 60, .inr (.inl newNumber))), (a_found, .inl (cJ, 65536, .inr (.inl found)))] H → va_D A [(a_p0, .inr (4, [.int thrown, .int modes, .int products, .ref z_upsOf, .ref z_downsOf, .ref z_numberOf, .int wayKind, .ref z_rowOf, .ref z_writes, .ref z_reads, .int isImageKnown, .int madeState, .int madeSign, .ref z_matrix, .ref a_other, .int newMany, .ref a_newUps, .ref a_newDowns, .ref a_newNumber, .ref a_found, .ref z_image, .ref z_imagePlace, .int imagePower, .int imageMany, .int imageWires])), (a_other, .inl (cJ, 65536, .inr (.inl other))), (a_newUps, .inl (cI, 60, .inl newUps)), (a_newDowns, .inl (cI, 60, .inl newDowns)), (a_newNumber, .inl (cJ, 60, .inr (.inl newNumber))), (a_found, .inl (cJ, 65536, .inr (.inl found)))] → va_S A s.heap H locs → lv_has ls 8 [(0, .ref a_p0), (1, .int x1), (2, .int x2)] → W p l e (headSpec (Cond.code y_Mo_readOff prog_6_method_16_code 8 (some .boolean) :: T0) rm_Mo_readOff).room s m ([.ref a_p0] : List Value).toArray below meth c H locs 0 0 Q (F0 m 9 ls [])) (k_19 : Int32 → Int32 → Int32 → Int32 → Int32 → Int32 → (Nat → Int32) → (Nat → Int32) → (Nat → Int64) → (Nat → Int64) → Option (Int32 × Int32 × Int32 × Int32 × (Nat → Int32) × (Nat → Int32) × (Nat → Int64) × (Nat → Int64))) (hk_19 : ∀ (x1 : Int32) (x2 : Int32) (x3 : Int32) (madeState : Int32) (madeSign : Int32) (newMany : Int32) (newUps : Nat → Int32) (newDowns : Nat → Int32) (newNumber : Nat → Int64) (found : Nat → Int64) (H : Heap) (locs : List Loc) (ls : Array Slot), k_19 x1 x2 x3 madeState madeSign newMany newUps newDowns newNumber found = some u → va_P (dC, dI) cls [(a_p0, .inr (4, [.int thrown, .int modes, .int products, .ref z_upsOf, .ref z_downsOf, .ref z_numberOf, .int wayKind, .ref z_rowOf, .ref z_writes, .ref z_reads, .int isImageKnown, .int madeState, .int madeSign, .ref z_matrix, .ref a_other, .int newMany, .ref a_newUps, .ref a_newDowns, .ref a_newNumber, .ref a_found, .ref z_image, .ref z_imagePlace, .int imagePower, .int imageMany, .int imageWires])), (a_other, .inl (cJ, 65536, .inr (.inl other))), (a_newUps, .inl (cI, 60, .inl newUps)), (a_newDowns, .inl (cI, 60, .inl newDowns)), (a_newNumber, .inl (cJ, 60, .inr (.inl newNumber))), (a_found, .inl (cJ, 65536, .inr (.inl found)))] H → va_D A [(a_p0, .inr (4, [.int thrown, .int modes, .int products, .ref z_upsOf, .ref z_downsOf, .ref z_numberOf, .int wayKind, .ref z_rowOf, .ref z_writes, .ref z_reads, .int isImageKnown, .int madeState, .int madeSign, .ref z_matrix, .ref a_other, .int newMany, .ref a_newUps, .ref a_newDowns, .ref a_newNumber, .ref a_found, .ref z_image, .ref z_imagePlace, .int imagePower, .int imageMany, .int imageWires])), (a_other, .inl (cJ, 65536, .inr (.inl other))), (a_newUps, .inl (cI, 60, .inl newUps)), (a_newDowns, .inl (cI, 60, .inl newDowns)), (a_newNumber, .inl (cJ, 60, .inr (.inl newNumber))), (a_found, .inl (cJ, 65536, .inr (.inl found)))] → va_S A s.heap H locs → lv_has ls 8 [(0, .ref a_p0), (1, .int x1), (2, .int x2), (3, .int x3)] → W p l e (headSpec (Cond.code y_Mo_readOff prog_6_method_16_code 8 (some .boolean) :: T0) rm_Mo_readOff).room s m ([.ref a_p0] : List Value).toArray below meth c H locs 0 0 Q (F0 m 19 ls [])), ∀ (n : Nat), ∀ (x1 : Int32) (x2 : Int32) (x3 : Int32) (x4 : Int64) (x6 : Int32) (x7 : Int32) (madeState : Int32) (madeSign : Int32) (newMany : Int32) (newUps : Nat → Int32) (newDowns : Nat → Int32) (newNumber : Nat → Int64) (found : Nat → Int64) (H : Heap) (locs : List Loc) (ls : Array Slot), b_Mo_readOff_50 F k_9 k_19 modes other n x1 x2 x3 x4 x6 x7 madeState madeSign newMany newUps newDowns newNumber found = some u → va_P (dC, dI) cls [(a_p0, .inr (4, [.int thrown, .int modes, .int products, .ref z_upsOf, .ref z_downsOf, .ref z_numberOf, .int wayKind, .ref z_rowOf, .ref z_writes, .ref z_reads, .int isImageKnown, .int madeState, .int madeSign, .ref z_matrix, .ref a_other, .int newMany, .ref a_newUps, .ref a_newDowns, .ref a_newNumber, .ref a_found, .ref z_image, .ref z_imagePlace, .int imagePower, .int imageMany, .int imageWires])), (a_other, .inl (cJ, 65536, .inr (.inl other))), (a_newUps, .inl (cI, 60, .inl newUps)), (a_newDowns, .inl (cI, 60, .inl newDowns)), (a_newNumber, .inl (cJ, 60, .inr (.inl newNumber))), (a_found, .inl (cJ, 65536, .inr (.inl found)))] H → va_D A [(a_p0, .inr (4, [.int thrown, .int modes, .int products, .ref z_upsOf, .ref z_downsOf, .ref z_numberOf, .int wayKind, .ref z_rowOf, .ref z_writes, .ref z_reads, .int isImageKnown, .int madeState, .int madeSign, .ref z_matrix, .ref a_other, .int newMany, .ref a_newUps, .ref a_newDowns, .ref a_newNumber, .ref a_found, .ref z_image, .ref z_imagePlace, .int imagePower, .int imageMany, .int imageWires])), (a_other, .inl (cJ, 65536, .inr (.inl other))), (a_newUps, .inl (cI, 60, .inl newUps)), (a_newDowns, .inl (cI, 60, .inl newDowns)), (a_newNumber, .inl (cJ, 60, .inr (.inl newNumber))), (a_found, .inl (cJ, 65536, .inr (.inl found)))] → va_S A s.heap H locs → lv_has ls 8 [(0, .ref a_p0), (1, .int x1), (2, .int x2), (3, .int x3), (4, .long x4), (6, .int x6), (7, .int x7)] → W p l e (headSpec (Cond.code y_Mo_readOff prog_6_method_16_code 8 (some .boolean) :: T0) rm_Mo_readOff).room s m ([.ref a_p0] : List Value).toArray below meth c H locs 0 0 Q (F0 m 50 ls []) := by
    intro k_9 hk_9 k_19 hk_19
    intro n
    induction n with
    | zero =>
      intro x1 x2 x3 x4 x6 x7 madeState madeSign newMany newUps newDowns newNumber found H locs ls hf hP hD hS hl
      exact no_fuel hf
    | succ n ih =>
      intro x1 x2 x3 x4 x6 x7 madeState madeSign newMany newUps newDowns newNumber found H locs ls hf hP hD hS hl
      rw [b_Mo_readOff_50] at hf
      refine lv_iload hx hb d_Mo_readOff_50 (lv_at hl 6 rfl) ?_
      refine lv_if_le (tgt := 120) hx hb d_Mo_readOff_52 (by decide) (fun c_11 => ?_) (fun c_11 => ?_)
      · replace hf := if_t c_11 hf
        refine lv_aload_n hx hb d_Mo_readOff_120 rfl (lv_at hl 0 rfl) ?_
        refine lv_iload_n hx hb d_Mo_readOff_121 rfl (lv_at hl 2 rfl) ?_
        refine lv_iload_n hx hb d_Mo_readOff_122 rfl (lv_at hl 3 rfl) ?_
        refine lv_iload_n hx hb d_Mo_readOff_123 rfl (lv_at hl 3 rfl) ?_
        obtain ⟨u_12, h_u_12, hf⟩ := bd hf
        refine wr_i (wr := [(a_other, .inl (cJ, 65536, .inr (.inl other))), (a_newUps, .inl (cI, 60, .inl newUps)), (a_newDowns, .inl (cI, 60, .inl newDowns)), (a_newNumber, .inl (cJ, 60, .inr (.inl newNumber))), (a_found, .inl (cJ, 65536, .inr (.inl found)))]) (wrV_run (As := [.int x2, .int x3, .int x3]) (rest := []) ⟨hx, hb, hml, hown, ht0⟩ (c_Mo_make l dC dI cI cJ a_p0 z_upsOf z_downsOf z_numberOf z_rowOf z_writes z_reads z_matrix a_other a_newUps a_newDowns a_newNumber a_found z_image z_imagePlace H.size thrown modes products wayKind isImageKnown madeState madeSign newMany imagePower imageMany imageWires x2 x3 x3 F u_12 h_u_12) (cwV 3 ht0 (gV m_567 m_569 (T0_pr (y := ⟨"FermionMapsModel", "make", "(III)Z"⟩) (i := 11) rfl rfl) m_5 m_570) rfl rfl rfl (by decide +kernel) ⟨Nat.le_of_ble_eq_true rfl, Nat.le_of_ble_eq_true rfl⟩) hK hNW hP hD [0] rfl rfl (by decide) (ci := 4) (q0 := 0) rfl rfl rfl hl.1 rfl (Nat.le_of_ble_eq_true rfl) d_Mo_readOff_124 ⟨Nat.zero_le _, Nat.zero_le _⟩) hP hD hS hA [0] [1, 2, 3, 4, 5] rfl rfl (by decide) (by decide) (fun w1 H locs hw hP hD hS => ?_)
        obtain rfl := hw
        have hP : va_P (dC, dI) cls [(a_p0, .inr (4, [.int thrown, .int modes, .int products, .ref z_upsOf, .ref z_downsOf, .ref z_numberOf, .int wayKind, .ref z_rowOf, .ref z_writes, .ref z_reads, .int isImageKnown, .int u_12.2.1, .int u_12.2.2, .ref z_matrix, .ref a_other, .int newMany, .ref a_newUps, .ref a_newDowns, .ref a_newNumber, .ref a_found, .ref z_image, .ref z_imagePlace, .int imagePower, .int imageMany, .int imageWires])), (a_other, .inl (cJ, 65536, .inr (.inl other))), (a_newUps, .inl (cI, 60, .inl newUps)), (a_newDowns, .inl (cI, 60, .inl newDowns)), (a_newNumber, .inl (cJ, 60, .inr (.inl newNumber))), (a_found, .inl (cJ, 65536, .inr (.inl found)))] H := hP.sub [5, 0, 1, 2, 3, 4] rfl
        have hD : va_D A [(a_p0, .inr (4, [.int thrown, .int modes, .int products, .ref z_upsOf, .ref z_downsOf, .ref z_numberOf, .int wayKind, .ref z_rowOf, .ref z_writes, .ref z_reads, .int isImageKnown, .int u_12.2.1, .int u_12.2.2, .ref z_matrix, .ref a_other, .int newMany, .ref a_newUps, .ref a_newDowns, .ref a_newNumber, .ref a_found, .ref z_image, .ref z_imagePlace, .int imagePower, .int imageMany, .int imageWires])), (a_other, .inl (cJ, 65536, .inr (.inl other))), (a_newUps, .inl (cI, 60, .inl newUps)), (a_newDowns, .inl (cI, 60, .inl newDowns)), (a_newNumber, .inl (cJ, 60, .inr (.inl newNumber))), (a_found, .inl (cJ, 65536, .inr (.inl found)))] := hD.sub [5, 0, 1, 2, 3, 4] (by decide) rfl
        refine lv_pop hx hb d_Mo_readOff_127 rfl ?_
        refine lv_aload_n hx hb d_Mo_readOff_128 rfl (lv_at hl 0 rfl) ?_
        refine va_get (D := (dC, dI)) (ci := 4) (v := .ref a_found) (C := "FermionMapsModel") (T := F_Mo) (N := 25) hx hb ht0 i_Mo hown hK hP 0 rfl rfl 19 (by decide) (ht0 _ m_476) (fun _ h9 => h9) rfl d_Mo_readOff_129 ?_
        refine lv_sipush (v := 256) hx hb d_Mo_readOff_132 (by decide) ?_
        refine lv_iload_n hx hb d_Mo_readOff_135 rfl (lv_at hl 2 rfl) ?_
        refine lv_imul hx hb d_Mo_readOff_136 ?_
        refine lv_iload_n hx hb d_Mo_readOff_137 rfl (lv_at hl 3 rfl) ?_
        refine lv_iadd hx hb d_Mo_readOff_138 ?_
        refine lv_aload_n hx hb d_Mo_readOff_139 rfl (lv_at hl 0 rfl) ?_
        refine va_get (D := (dC, dI)) (ci := 4) (v := .int u_12.2.2) (C := "FermionMapsModel") (T := F_Mo) (N := 25) hx hb ht0 i_Mo hown hK hP 0 rfl rfl 12 (by decide) (ht0 _ m_469) (fun _ h9 => h9) rfl d_Mo_readOff_140 ?_
        refine lv_i2l (v := u_12.2.2.toInt64) hx hb d_Mo_readOff_143 rfl ?_
        refine lv_lload hx hb d_Mo_readOff_144 (lv_at hl 4 rfl) ?_
        refine lv_lmul hx hb d_Mo_readOff_146 ?_
        refine lv_topl (fun t_13 e_t_13 => ?_)
        replace hf := nm_eq e_t_13 hf
        obtain ⟨hi_14, hf⟩ := ckI_ok hf
        refine va_last hx hb hK hP hD hS 5 1 rfl rfl hi_14 d_Mo_readOff_147 (fun H locs hP hD hS => ?_)
        have hP : va_P (dC, dI) cls [(a_p0, .inr (4, [.int thrown, .int modes, .int products, .ref z_upsOf, .ref z_downsOf, .ref z_numberOf, .int wayKind, .ref z_rowOf, .ref z_writes, .ref z_reads, .int isImageKnown, .int u_12.2.1, .int u_12.2.2, .ref z_matrix, .ref a_other, .int newMany, .ref a_newUps, .ref a_newDowns, .ref a_newNumber, .ref a_found, .ref z_image, .ref z_imagePlace, .int imagePower, .int imageMany, .int imageWires])), (a_other, .inl (cJ, 65536, .inr (.inl other))), (a_newUps, .inl (cI, 60, .inl newUps)), (a_newDowns, .inl (cI, 60, .inl newDowns)), (a_newNumber, .inl (cJ, 60, .inr (.inl newNumber))), (a_found, .inl (cJ, 65536, .inr (.inl (vp_updL found ((256 * x2) + x3).toNatClampNeg t_13))))] H := hP
        have hD : va_D A [(a_p0, .inr (4, [.int thrown, .int modes, .int products, .ref z_upsOf, .ref z_downsOf, .ref z_numberOf, .int wayKind, .ref z_rowOf, .ref z_writes, .ref z_reads, .int isImageKnown, .int u_12.2.1, .int u_12.2.2, .ref z_matrix, .ref a_other, .int newMany, .ref a_newUps, .ref a_newDowns, .ref a_newNumber, .ref a_found, .ref z_image, .ref z_imagePlace, .int imagePower, .int imageMany, .int imageWires])), (a_other, .inl (cJ, 65536, .inr (.inl other))), (a_newUps, .inl (cI, 60, .inl newUps)), (a_newDowns, .inl (cI, 60, .inl newDowns)), (a_newNumber, .inl (cJ, 60, .inr (.inl newNumber))), (a_found, .inl (cJ, 65536, .inr (.inl (vp_updL found ((256 * x2) + x3).toNatClampNeg t_13))))] := hD
        refine lv_iload_n hx hb d_Mo_readOff_148 rfl (lv_at hl 1 rfl) ?_
        refine lv_if_eq (tgt := 177) hx hb d_Mo_readOff_149 (by decide) (fun c_15 => ?_) (fun c_15 => ?_)
        · replace hf := if_t c_15 hf
          exact B_177 k_9 hk_9 k_19 hk_19 x2 x3 u_12.2.1 u_12.2.2 newMany newUps newDowns newNumber (vp_updL found ((256 * x2) + x3).toNatClampNeg t_13) H locs ls hf hP hD hS (lv_sub hl [0, 2, 3] rfl)
        · replace hf := if_f c_15 hf
          refine lv_aload_n hx hb d_Mo_readOff_152 rfl (lv_at hl 0 rfl) ?_
          refine lv_iload_n hx hb d_Mo_readOff_153 rfl (lv_at hl 2 rfl) ?_
          refine lv_iload_n hx hb d_Mo_readOff_154 rfl (lv_at hl 3 rfl) ?_
          refine lv_aload_n hx hb d_Mo_readOff_155 rfl (lv_at hl 0 rfl) ?_
          refine va_get (D := (dC, dI)) (ci := 4) (v := .ref a_found) (C := "FermionMapsModel") (T := F_Mo) (N := 25) hx hb ht0 i_Mo hown hK hP 0 rfl rfl 19 (by decide) (ht0 _ m_476) (fun _ h9 => h9) rfl d_Mo_readOff_156 ?_
          refine lv_sipush (v := 256) hx hb d_Mo_readOff_159 (by decide) ?_
          refine lv_iload_n hx hb d_Mo_readOff_162 rfl (lv_at hl 2 rfl) ?_
          refine lv_imul hx hb d_Mo_readOff_163 ?_
          refine lv_iload_n hx hb d_Mo_readOff_164 rfl (lv_at hl 3 rfl) ?_
          refine lv_iadd hx hb d_Mo_readOff_165 ?_
          refine lv_topi (fun t_17 e_t_17 => ?_)
          replace hf := nm_eq e_t_17 hf
          obtain ⟨hi_18, hf⟩ := ckI_ok hf
          refine va_lald hx hb hK hP 5 1 rfl rfl hi_18 d_Mo_readOff_166 ?_
          obtain ⟨u_19, h_u_19, hf⟩ := bd hf
          refine wr_i (wr := [(a_other, .inl (cJ, 65536, .inr (.inl other))), (a_found, .inl (cJ, 65536, .inr (.inl (vp_updL found ((256 * x2) + x3).toNatClampNeg t_13))))]) (wrV_run (As := [.int x2, .int x3, .long ((vp_updL found ((256 * x2) + x3).toNatClampNeg t_13) t_17.toNatClampNeg)]) (rest := []) ⟨hx, hb, hml, hown, ht0⟩ (c_Mo_put l dC dI cI cJ a_p0 a_newUps a_newDowns a_newNumber z_upsOf z_downsOf z_numberOf z_rowOf z_writes z_reads z_matrix a_other a_found z_image z_imagePlace H.size thrown modes products wayKind isImageKnown u_12.2.1 u_12.2.2 newMany imagePower imageMany imageWires newUps newDowns newNumber x2 x3 ((vp_updL found ((256 * x2) + x3).toNatClampNeg t_13) t_17.toNatClampNeg) F u_19 h_u_19) (cwV 3 ht0 (gV m_551 m_553 (T0_pr (y := ⟨"FermionMapsModel", "put", "(IIJ)Z"⟩) (i := 8) rfl rfl) m_5 m_554) rfl rfl rfl (by decide +kernel) ⟨Nat.le_of_ble_eq_true rfl, Nat.le_of_ble_eq_true rfl⟩) hK hNW hP hD [0, 2, 3, 4] rfl rfl (by decide) (ci := 4) (q0 := 0) rfl rfl rfl hl.1 rfl (Nat.le_of_ble_eq_true rfl) d_Mo_readOff_167 ⟨Nat.zero_le _, Nat.zero_le _⟩) hP hD hS hA [0, 2, 3, 4] [1, 5] rfl rfl (by decide) (by decide) (fun w1 H locs hw hP hD hS => ?_)
          obtain rfl := hw
          have hP : va_P (dC, dI) cls [(a_p0, .inr (4, [.int thrown, .int modes, .int products, .ref z_upsOf, .ref z_downsOf, .ref z_numberOf, .int wayKind, .ref z_rowOf, .ref z_writes, .ref z_reads, .int isImageKnown, .int u_12.2.1, .int u_12.2.2, .ref z_matrix, .ref a_other, .int u_19.2.1, .ref a_newUps, .ref a_newDowns, .ref a_newNumber, .ref a_found, .ref z_image, .ref z_imagePlace, .int imagePower, .int imageMany, .int imageWires])), (a_other, .inl (cJ, 65536, .inr (.inl other))), (a_newUps, .inl (cI, 60, .inl u_19.2.2.1)), (a_newDowns, .inl (cI, 60, .inl u_19.2.2.2.1)), (a_newNumber, .inl (cJ, 60, .inr (.inl u_19.2.2.2.2))), (a_found, .inl (cJ, 65536, .inr (.inl (vp_updL found ((256 * x2) + x3).toNatClampNeg t_13))))] H := hP.sub [2, 0, 3, 4, 5, 1] rfl
          have hD : va_D A [(a_p0, .inr (4, [.int thrown, .int modes, .int products, .ref z_upsOf, .ref z_downsOf, .ref z_numberOf, .int wayKind, .ref z_rowOf, .ref z_writes, .ref z_reads, .int isImageKnown, .int u_12.2.1, .int u_12.2.2, .ref z_matrix, .ref a_other, .int u_19.2.1, .ref a_newUps, .ref a_newDowns, .ref a_newNumber, .ref a_found, .ref z_image, .ref z_imagePlace, .int imagePower, .int imageMany, .int imageWires])), (a_other, .inl (cJ, 65536, .inr (.inl other))), (a_newUps, .inl (cI, 60, .inl u_19.2.2.1)), (a_newDowns, .inl (cI, 60, .inl u_19.2.2.2.1)), (a_newNumber, .inl (cJ, 60, .inr (.inl u_19.2.2.2.2))), (a_found, .inl (cJ, 65536, .inr (.inl (vp_updL found ((256 * x2) + x3).toNatClampNeg t_13))))] := hD.sub [2, 0, 3, 4, 5, 1] (by decide) rfl
          refine lv_if_eq (tgt := 177) hx hb d_Mo_readOff_170 (by decide) (fun c_20 => ?_) (fun c_20 => ?_)
          · replace hf := if_t c_20 hf
            exact B_177 k_9 hk_9 k_19 hk_19 x2 x3 u_12.2.1 u_12.2.2 u_19.2.1 u_19.2.2.1 u_19.2.2.2.1 u_19.2.2.2.2 (vp_updL found ((256 * x2) + x3).toNatClampNeg t_13) H locs ls hf hP hD hS (lv_sub hl [0, 2, 3] rfl)
          · replace hf := if_f c_20 hf
            refine lv_iconst (v := 1) hx hb d_Mo_readOff_173 (by decide) ?_
            refine lv_goto (tgt := 178) hx hb d_Mo_readOff_174 (by decide) ?_
            exact B_178 k_9 hk_9 k_19 hk_19 x2 x3 1 u_12.2.1 u_12.2.2 u_19.2.1 u_19.2.2.1 u_19.2.2.2.1 u_19.2.2.2.2 (vp_updL found ((256 * x2) + x3).toNatClampNeg t_13) H locs ls hf hP hD hS (lv_sub hl [0, 2, 3] rfl)
      · replace hf := if_f c_11 hf
        refine lv_aload_n hx hb d_Mo_readOff_55 rfl (lv_at hl 0 rfl) ?_
        refine lv_iload_n hx hb d_Mo_readOff_56 rfl (lv_at hl 2 rfl) ?_
        refine lv_iload hx hb d_Mo_readOff_57 (lv_at hl 6 rfl) ?_
        refine lv_iconst (v := (-1)) hx hb d_Mo_readOff_59 (by decide) ?_
        refine lv_ixor hx hb d_Mo_readOff_60 ?_
        refine lv_iand hx hb d_Mo_readOff_61 ?_
        refine lv_iload_n hx hb d_Mo_readOff_62 rfl (lv_at hl 3 rfl) ?_
        refine lv_iload hx hb d_Mo_readOff_63 (lv_at hl 6 rfl) ?_
        refine lv_iconst (v := (-1)) hx hb d_Mo_readOff_65 (by decide) ?_
        refine lv_ixor hx hb d_Mo_readOff_66 ?_
        refine lv_iand hx hb d_Mo_readOff_67 ?_
        refine lv_iload_n hx hb d_Mo_readOff_68 rfl (lv_at hl 3 rfl) ?_
        obtain ⟨u_21, h_u_21, hf⟩ := bd hf
        refine wr_i (wr := [(a_other, .inl (cJ, 65536, .inr (.inl other))), (a_newUps, .inl (cI, 60, .inl newUps)), (a_newDowns, .inl (cI, 60, .inl newDowns)), (a_newNumber, .inl (cJ, 60, .inr (.inl newNumber))), (a_found, .inl (cJ, 65536, .inr (.inl found)))]) (wrV_run (As := [.int (x2 &&& (x7 ^^^ (-1))), .int (x3 &&& (x7 ^^^ (-1))), .int x3]) (rest := []) ⟨hx, hb, hml, hown, ht0⟩ (c_Mo_make l dC dI cI cJ a_p0 z_upsOf z_downsOf z_numberOf z_rowOf z_writes z_reads z_matrix a_other a_newUps a_newDowns a_newNumber a_found z_image z_imagePlace H.size thrown modes products wayKind isImageKnown madeState madeSign newMany imagePower imageMany imageWires (x2 &&& (x7 ^^^ (-1))) (x3 &&& (x7 ^^^ (-1))) x3 F u_21 h_u_21) (cwV 3 ht0 (gV m_567 m_569 (T0_pr (y := ⟨"FermionMapsModel", "make", "(III)Z"⟩) (i := 11) rfl rfl) m_5 m_570) rfl rfl rfl (by decide +kernel) ⟨Nat.le_of_ble_eq_true rfl, Nat.le_of_ble_eq_true rfl⟩) hK hNW hP hD [0] rfl rfl (by decide) (ci := 4) (q0 := 0) rfl rfl rfl hl.1 rfl (Nat.le_of_ble_eq_true rfl) d_Mo_readOff_69 ⟨Nat.zero_le _, Nat.zero_le _⟩) hP hD hS hA [0] [1, 2, 3, 4, 5] rfl rfl (by decide) (by decide) (fun w1 H locs hw hP hD hS => ?_)
        obtain rfl := hw
        have hP : va_P (dC, dI) cls [(a_p0, .inr (4, [.int thrown, .int modes, .int products, .ref z_upsOf, .ref z_downsOf, .ref z_numberOf, .int wayKind, .ref z_rowOf, .ref z_writes, .ref z_reads, .int isImageKnown, .int u_21.2.1, .int u_21.2.2, .ref z_matrix, .ref a_other, .int newMany, .ref a_newUps, .ref a_newDowns, .ref a_newNumber, .ref a_found, .ref z_image, .ref z_imagePlace, .int imagePower, .int imageMany, .int imageWires])), (a_other, .inl (cJ, 65536, .inr (.inl other))), (a_newUps, .inl (cI, 60, .inl newUps)), (a_newDowns, .inl (cI, 60, .inl newDowns)), (a_newNumber, .inl (cJ, 60, .inr (.inl newNumber))), (a_found, .inl (cJ, 65536, .inr (.inl found)))] H := hP.sub [5, 0, 1, 2, 3, 4] rfl
        have hD : va_D A [(a_p0, .inr (4, [.int thrown, .int modes, .int products, .ref z_upsOf, .ref z_downsOf, .ref z_numberOf, .int wayKind, .ref z_rowOf, .ref z_writes, .ref z_reads, .int isImageKnown, .int u_21.2.1, .int u_21.2.2, .ref z_matrix, .ref a_other, .int newMany, .ref a_newUps, .ref a_newDowns, .ref a_newNumber, .ref a_found, .ref z_image, .ref z_imagePlace, .int imagePower, .int imageMany, .int imageWires])), (a_other, .inl (cJ, 65536, .inr (.inl other))), (a_newUps, .inl (cI, 60, .inl newUps)), (a_newDowns, .inl (cI, 60, .inl newDowns)), (a_newNumber, .inl (cJ, 60, .inr (.inl newNumber))), (a_found, .inl (cJ, 65536, .inr (.inl found)))] := hD.sub [5, 0, 1, 2, 3, 4] (by decide) rfl
        refine lv_if_eq (tgt := 108) hx hb d_Mo_readOff_72 (by decide) (fun c_22 => ?_) (fun c_22 => ?_)
        · replace hf := if_t c_22 hf
          exact B_108 k_9 hk_9 k_19 hk_19 (b_Mo_readOff_50 F k_9 k_19 modes other n) ih x1 x2 x3 x4 x6 x7 u_21.2.1 u_21.2.2 newMany newUps newDowns newNumber found H locs ls hf hP hD hS (lv_sub hl [0, 1, 2, 3, 4, 5, 6] rfl)
        · replace hf := if_f c_22 hf
          refine lv_lload hx hb d_Mo_readOff_75 (lv_at hl 4 rfl) ?_
          refine lv_aload_n hx hb d_Mo_readOff_77 rfl (lv_at hl 0 rfl) ?_
          refine va_get (D := (dC, dI)) (ci := 4) (v := .int u_21.2.2) (C := "FermionMapsModel") (T := F_Mo) (N := 25) hx hb ht0 i_Mo hown hK hP 0 rfl rfl 12 (by decide) (ht0 _ m_469) (fun _ h9 => h9) rfl d_Mo_readOff_78 ?_
          refine lv_i2l (v := u_21.2.2.toInt64) hx hb d_Mo_readOff_81 rfl ?_
          refine lv_aload_n hx hb d_Mo_readOff_82 rfl (lv_at hl 0 rfl) ?_
          refine va_get (D := (dC, dI)) (ci := 4) (v := .ref a_found) (C := "FermionMapsModel") (T := F_Mo) (N := 25) hx hb ht0 i_Mo hown hK hP 0 rfl rfl 19 (by decide) (ht0 _ m_476) (fun _ h9 => h9) rfl d_Mo_readOff_83 ?_
          refine lv_sipush (v := 256) hx hb d_Mo_readOff_86 (by decide) ?_
          refine lv_iload_n hx hb d_Mo_readOff_89 rfl (lv_at hl 2 rfl) ?_
          refine lv_iload hx hb d_Mo_readOff_90 (lv_at hl 6 rfl) ?_
          refine lv_iconst (v := (-1)) hx hb d_Mo_readOff_92 (by decide) ?_
          refine lv_ixor hx hb d_Mo_readOff_93 ?_
          refine lv_iand hx hb d_Mo_readOff_94 ?_
          refine lv_imul hx hb d_Mo_readOff_95 ?_
          refine lv_iload_n hx hb d_Mo_readOff_96 rfl (lv_at hl 3 rfl) ?_
          refine lv_iload hx hb d_Mo_readOff_97 (lv_at hl 6 rfl) ?_
          refine lv_iconst (v := (-1)) hx hb d_Mo_readOff_99 (by decide) ?_
          refine lv_ixor hx hb d_Mo_readOff_100 ?_
          refine lv_iand hx hb d_Mo_readOff_101 ?_
          refine lv_iadd hx hb d_Mo_readOff_102 ?_
          refine lv_topi (fun t_24 e_t_24 => ?_)
          replace hf := nm_eq e_t_24 hf
          obtain ⟨hi_25, hf⟩ := ckI_ok hf
          refine va_lald hx hb hK hP 5 1 rfl rfl hi_25 d_Mo_readOff_103 ?_
          refine lv_lmul hx hb d_Mo_readOff_104 ?_
          refine lv_lsub hx hb d_Mo_readOff_105 ?_
          refine lv_topl (fun x4_26 e_x4_26 => ?_)
          replace hf := nm_eq e_x4_26 hf
          refine lv_lstore (lv' := [(4, .long x4_26), (0, .ref a_p0), (1, .int x1), (2, .int x2), (3, .int x3), (6, .int x6), (7, .int x7)]) hx hb d_Mo_readOff_106 hl (by decide) rfl (fun ls hl => ?_)
          exact B_108 k_9 hk_9 k_19 hk_19 (b_Mo_readOff_50 F k_9 k_19 modes other n) ih x1 x2 x3 x4_26 x6 x7 u_21.2.1 u_21.2.2 newMany newUps newDowns newNumber found H locs ls hf hP hD hS (lv_sub hl [1, 2, 3, 4, 0, 5, 6] rfl)
  have B_19 : ∀ (k_9 : Int32 → Int32 → Int32 → Int32 → Int32 → (Nat → Int32) → (Nat → Int32) → (Nat → Int64) → (Nat → Int64) → Option (Int32 × Int32 × Int32 × Int32 × (Nat → Int32) × (Nat → Int32) × (Nat → Int64) × (Nat → Int64))) (hk_9 : ∀ (x1 : Int32) (x2 : Int32) (madeState : Int32) (madeSign : Int32) (newMany : Int32) (newUps : Nat → Int32) (newDowns : Nat → Int32) (newNumber : Nat → Int64) (found : Nat → Int64) (H : Heap) (locs : List Loc) (ls : Array Slot), k_9 x1 x2 madeState madeSign newMany newUps newDowns newNumber found = some u → va_P (dC, dI) cls [(a_p0, .inr (4, [.int thrown, .int modes, .int products, .ref z_upsOf, .ref z_downsOf, .ref z_numberOf, .int wayKind, .ref z_rowOf, .ref z_writes, .ref z_reads, .int isImageKnown, .int madeState, .int madeSign, .ref z_matrix, .ref a_other, .int newMany, .ref a_newUps, .ref a_newDowns, .ref a_newNumber, .ref a_found, .ref z_image, .ref z_imagePlace, .int imagePower, .int imageMany, .int imageWires])), (a_other, .inl (cJ, 65536, .inr (.inl other))), (a_newUps, .inl (cI, 60, .inl newUps)), (a_newDowns, .inl (cI, 60, .inl newDowns)), (a_newNumber, .inl (cJ, 60, .inr (.inl newNumber))), (a_found, .inl (cJ, 65536, .inr (.inl found)))] H → va_D A [(a_p0, .inr (4, [.int thrown, .int modes, .int products, .ref z_upsOf, .ref z_downsOf, .ref z_numberOf, .int wayKind, .ref z_rowOf, .ref z_writes, .ref z_reads, .int isImageKnown, .int madeState, .int madeSign, .ref z_matrix, .ref a_other, .int newMany, .ref a_newUps, .ref a_newDowns, .ref a_newNumber, .ref a_found, .ref z_image, .ref z_imagePlace, .int imagePower, .int imageMany, .int imageWires])), (a_other, .inl (cJ, 65536, .inr (.inl other))), (a_newUps, .inl (cI, 60, .inl newUps)), (a_newDowns, .inl (cI, 60, .inl newDowns)), (a_newNumber, .inl (cJ, 60, .inr (.inl newNumber))), (a_found, .inl (cJ, 65536, .inr (.inl found)))] → va_S A s.heap H locs → lv_has ls 8 [(0, .ref a_p0), (1, .int x1), (2, .int x2)] → W p l e (headSpec (Cond.code y_Mo_readOff prog_6_method_16_code 8 (some .boolean) :: T0) rm_Mo_readOff).room s m ([.ref a_p0] : List Value).toArray below meth c H locs 0 0 Q (F0 m 9 ls [])), ∀ (n : Nat), ∀ (x1 : Int32) (x2 : Int32) (x3 : Int32) (madeState : Int32) (madeSign : Int32) (newMany : Int32) (newUps : Nat → Int32) (newDowns : Nat → Int32) (newNumber : Nat → Int64) (found : Nat → Int64) (H : Heap) (locs : List Loc) (ls : Array Slot), b_Mo_readOff_19 F k_9 modes other n x1 x2 x3 madeState madeSign newMany newUps newDowns newNumber found = some u → va_P (dC, dI) cls [(a_p0, .inr (4, [.int thrown, .int modes, .int products, .ref z_upsOf, .ref z_downsOf, .ref z_numberOf, .int wayKind, .ref z_rowOf, .ref z_writes, .ref z_reads, .int isImageKnown, .int madeState, .int madeSign, .ref z_matrix, .ref a_other, .int newMany, .ref a_newUps, .ref a_newDowns, .ref a_newNumber, .ref a_found, .ref z_image, .ref z_imagePlace, .int imagePower, .int imageMany, .int imageWires])), (a_other, .inl (cJ, 65536, .inr (.inl other))), (a_newUps, .inl (cI, 60, .inl newUps)), (a_newDowns, .inl (cI, 60, .inl newDowns)), (a_newNumber, .inl (cJ, 60, .inr (.inl newNumber))), (a_found, .inl (cJ, 65536, .inr (.inl found)))] H → va_D A [(a_p0, .inr (4, [.int thrown, .int modes, .int products, .ref z_upsOf, .ref z_downsOf, .ref z_numberOf, .int wayKind, .ref z_rowOf, .ref z_writes, .ref z_reads, .int isImageKnown, .int madeState, .int madeSign, .ref z_matrix, .ref a_other, .int newMany, .ref a_newUps, .ref a_newDowns, .ref a_newNumber, .ref a_found, .ref z_image, .ref z_imagePlace, .int imagePower, .int imageMany, .int imageWires])), (a_other, .inl (cJ, 65536, .inr (.inl other))), (a_newUps, .inl (cI, 60, .inl newUps)), (a_newDowns, .inl (cI, 60, .inl newDowns)), (a_newNumber, .inl (cJ, 60, .inr (.inl newNumber))), (a_found, .inl (cJ, 65536, .inr (.inl found)))] → va_S A s.heap H locs → lv_has ls 8 [(0, .ref a_p0), (1, .int x1), (2, .int x2), (3, .int x3)] → W p l e (headSpec (Cond.code y_Mo_readOff prog_6_method_16_code 8 (some .boolean) :: T0) rm_Mo_readOff).room s m ([.ref a_p0] : List Value).toArray below meth c H locs 0 0 Q (F0 m 19 ls []) := by
    intro k_9 hk_9
    intro n
    induction n with
    | zero =>
      intro x1 x2 x3 madeState madeSign newMany newUps newDowns newNumber found H locs ls hf hP hD hS hl
      exact no_fuel hf
    | succ n ih =>
      intro x1 x2 x3 madeState madeSign newMany newUps newDowns newNumber found H locs ls hf hP hD hS hl
      rw [b_Mo_readOff_19] at hf
      refine lv_iload_n hx hb d_Mo_readOff_19 rfl (lv_at hl 3 rfl) ?_
      refine lv_aload_n hx hb d_Mo_readOff_20 rfl (lv_at hl 0 rfl) ?_
      obtain ⟨u_4, h_u_4, hf⟩ := bd hf
      refine rd_i (rdV_run (As := []) (rest := [.int x3]) ⟨hx, hb, hml, hown, ht0⟩ (c_Mo_states l dC dI cI cJ a_p0 z_upsOf z_downsOf z_numberOf z_rowOf z_writes z_reads z_matrix a_other a_newUps a_newDowns a_newNumber a_found z_image z_imagePlace thrown modes products wayKind isImageKnown madeState madeSign newMany imagePower imageMany imageWires F u_4 h_u_4) (cwV 0 ht0 (gV m_442 m_444 (T0_pr (y := ⟨"FermionMapsModel", "states", "()I"⟩) (i := 4) rfl rfl) m_5 m_445) rfl rfl rfl (by decide +kernel) ⟨Nat.le_of_ble_eq_true rfl, Nat.le_of_ble_eq_true rfl⟩) hK hNW hP [0] rfl (ci := 4) (q0 := 0) rfl rfl rfl hl.1 rfl (Nat.le_of_ble_eq_true rfl) d_Mo_readOff_21 ⟨Nat.zero_le _, Nat.zero_le _⟩) ?_
      refine lv_icmp_ge (tgt := 185) hx hb d_Mo_readOff_24 (by decide) (fun c_5 => ?_) (fun c_5 => ?_)
      · replace hf := if_t c_5 hf
        obtain ⟨x2_6, e_x2_6⟩ : ∃ y : Int32, y = x2 + 1 := ⟨_, rfl⟩
        replace hf := nm_eq e_x2_6 hf
        refine lv_iinc (v := x2_6) (lv' := [(2, .int x2_6), (0, .ref a_p0), (1, .int x1), (3, .int x3)]) hx hb d_Mo_readOff_185 hl (k := 2) rfl (by rw [e_x2_6]; rfl) (by decide) rfl (fun ls hl => ?_)
        refine lv_goto (tgt := 9) hx hb d_Mo_readOff_188 (by decide) ?_
        exact hk_9 x1 x2_6 madeState madeSign newMany newUps newDowns newNumber found H locs ls hf hP hD hS (lv_sub hl [1, 2, 0] rfl)
      · replace hf := if_f c_5 hf
        refine lv_aload_n hx hb d_Mo_readOff_27 rfl (lv_at hl 0 rfl) ?_
        refine va_get (D := (dC, dI)) (ci := 4) (v := .ref a_other) (C := "FermionMapsModel") (T := F_Mo) (N := 25) hx hb ht0 i_Mo hown hK hP 0 rfl rfl 14 (by decide) (ht0 _ m_471) (fun _ h9 => h9) rfl d_Mo_readOff_28 ?_
        refine lv_sipush (v := 256) hx hb d_Mo_readOff_31 (by decide) ?_
        refine lv_iload_n hx hb d_Mo_readOff_34 rfl (lv_at hl 2 rfl) ?_
        refine lv_imul hx hb d_Mo_readOff_35 ?_
        refine lv_iload_n hx hb d_Mo_readOff_36 rfl (lv_at hl 3 rfl) ?_
        refine lv_iadd hx hb d_Mo_readOff_37 ?_
        refine lv_topi (fun t_7 e_t_7 => ?_)
        replace hf := nm_eq e_t_7 hf
        obtain ⟨hi_8, hf⟩ := ckI_ok hf
        refine va_lald hx hb hK hP 1 1 rfl rfl hi_8 d_Mo_readOff_38 ?_
        refine lv_topl (fun x4_9 e_x4_9 => ?_)
        replace hf := nm_eq e_x4_9 hf
        refine lv_lstore (lv' := [(4, .long x4_9), (0, .ref a_p0), (1, .int x1), (2, .int x2), (3, .int x3)]) hx hb d_Mo_readOff_39 hl (by decide) rfl (fun ls hl => ?_)
        refine lv_iload_n hx hb d_Mo_readOff_41 rfl (lv_at hl 3 rfl) ?_
        refine lv_iload_n hx hb d_Mo_readOff_42 rfl (lv_at hl 4 rfl) ?_
        refine lv_iand hx hb d_Mo_readOff_43 ?_
        refine lv_topi (fun x6_10 e_x6_10 => ?_)
        replace hf := nm_eq e_x6_10 hf
        refine lv_istore (lv' := [(6, .int x6_10), (4, .long x4_9), (0, .ref a_p0), (1, .int x1), (2, .int x2), (3, .int x3)]) hx hb d_Mo_readOff_44 hl (by decide) rfl (fun ls hl => ?_)
        refine lv_iload hx hb d_Mo_readOff_46 (lv_at hl 0 rfl) ?_
        refine lv_istore (lv' := [(7, .int x6_10), (6, .int x6_10), (4, .long x4_9), (0, .ref a_p0), (1, .int x1), (2, .int x2), (3, .int x3)]) hx hb d_Mo_readOff_48 hl (by decide) rfl (fun ls hl => ?_)
        exact B_50 k_9 hk_9 (b_Mo_readOff_19 F k_9 modes other n) ih F x1 x2 x3 x4_9 x6_10 x6_10 madeState madeSign newMany newUps newDowns newNumber found H locs ls hf hP hD hS (lv_sub hl [3, 4, 5, 6, 2, 1, 0] rfl)
  have B_9 : ∀ (n : Nat), ∀ (x1 : Int32) (x2 : Int32) (madeState : Int32) (madeSign : Int32) (newMany : Int32) (newUps : Nat → Int32) (newDowns : Nat → Int32) (newNumber : Nat → Int64) (found : Nat → Int64) (H : Heap) (locs : List Loc) (ls : Array Slot), b_Mo_readOff_9 F modes other n x1 x2 madeState madeSign newMany newUps newDowns newNumber found = some u → va_P (dC, dI) cls [(a_p0, .inr (4, [.int thrown, .int modes, .int products, .ref z_upsOf, .ref z_downsOf, .ref z_numberOf, .int wayKind, .ref z_rowOf, .ref z_writes, .ref z_reads, .int isImageKnown, .int madeState, .int madeSign, .ref z_matrix, .ref a_other, .int newMany, .ref a_newUps, .ref a_newDowns, .ref a_newNumber, .ref a_found, .ref z_image, .ref z_imagePlace, .int imagePower, .int imageMany, .int imageWires])), (a_other, .inl (cJ, 65536, .inr (.inl other))), (a_newUps, .inl (cI, 60, .inl newUps)), (a_newDowns, .inl (cI, 60, .inl newDowns)), (a_newNumber, .inl (cJ, 60, .inr (.inl newNumber))), (a_found, .inl (cJ, 65536, .inr (.inl found)))] H → va_D A [(a_p0, .inr (4, [.int thrown, .int modes, .int products, .ref z_upsOf, .ref z_downsOf, .ref z_numberOf, .int wayKind, .ref z_rowOf, .ref z_writes, .ref z_reads, .int isImageKnown, .int madeState, .int madeSign, .ref z_matrix, .ref a_other, .int newMany, .ref a_newUps, .ref a_newDowns, .ref a_newNumber, .ref a_found, .ref z_image, .ref z_imagePlace, .int imagePower, .int imageMany, .int imageWires])), (a_other, .inl (cJ, 65536, .inr (.inl other))), (a_newUps, .inl (cI, 60, .inl newUps)), (a_newDowns, .inl (cI, 60, .inl newDowns)), (a_newNumber, .inl (cJ, 60, .inr (.inl newNumber))), (a_found, .inl (cJ, 65536, .inr (.inl found)))] → va_S A s.heap H locs → lv_has ls 8 [(0, .ref a_p0), (1, .int x1), (2, .int x2)] → W p l e (headSpec (Cond.code y_Mo_readOff prog_6_method_16_code 8 (some .boolean) :: T0) rm_Mo_readOff).room s m ([.ref a_p0] : List Value).toArray below meth c H locs 0 0 Q (F0 m 9 ls []) := by
    intro n
    induction n with
    | zero =>
      intro x1 x2 madeState madeSign newMany newUps newDowns newNumber found H locs ls hf hP hD hS hl
      exact no_fuel hf
    | succ n ih =>
      intro x1 x2 madeState madeSign newMany newUps newDowns newNumber found H locs ls hf hP hD hS hl
      rw [b_Mo_readOff_9] at hf
      refine lv_iload_n hx hb d_Mo_readOff_9 rfl (lv_at hl 2 rfl) ?_
      refine lv_aload_n hx hb d_Mo_readOff_10 rfl (lv_at hl 0 rfl) ?_
      obtain ⟨u_1, h_u_1, hf⟩ := bd hf
      refine rd_i (rdV_run (As := []) (rest := [.int x2]) ⟨hx, hb, hml, hown, ht0⟩ (c_Mo_states l dC dI cI cJ a_p0 z_upsOf z_downsOf z_numberOf z_rowOf z_writes z_reads z_matrix a_other a_newUps a_newDowns a_newNumber a_found z_image z_imagePlace thrown modes products wayKind isImageKnown madeState madeSign newMany imagePower imageMany imageWires F u_1 h_u_1) (cwV 0 ht0 (gV m_442 m_444 (T0_pr (y := ⟨"FermionMapsModel", "states", "()I"⟩) (i := 4) rfl rfl) m_5 m_445) rfl rfl rfl (by decide +kernel) ⟨Nat.le_of_ble_eq_true rfl, Nat.le_of_ble_eq_true rfl⟩) hK hNW hP [0] rfl (ci := 4) (q0 := 0) rfl rfl rfl hl.1 rfl (Nat.le_of_ble_eq_true rfl) d_Mo_readOff_11 ⟨Nat.zero_le _, Nat.zero_le _⟩) ?_
      refine lv_icmp_ge (tgt := 191) hx hb d_Mo_readOff_14 (by decide) (fun c_2 => ?_) (fun c_2 => ?_)
      · replace hf := if_t c_2 hf
        refine lv_iload_n hx hb d_Mo_readOff_191 rfl (lv_at hl 1 rfl) ?_
        obtain ⟨hz_3, hf⟩ := ckB_ok hf
        have hu := Option.some.inj hf
        subst hu
        exact rw_z hQ rfl hz_3 rfl hP hD hK hS hx hb hr hlocks d_Mo_readOff_192
      · replace hf := if_f c_2 hf
        refine lv_iconst (v := 0) hx hb d_Mo_readOff_17 (by decide) ?_
        refine lv_istore_n (lv' := [(3, .int 0), (0, .ref a_p0), (1, .int x1), (2, .int x2)]) hx hb d_Mo_readOff_18 rfl hl (by decide) rfl (fun ls hl => ?_)
        exact B_19 (b_Mo_readOff_9 F modes other n) ih F x1 x2 0 madeState madeSign newMany newUps newDowns newNumber found H locs ls hf hP hD hS (lv_sub hl [1, 2, 3, 0] rfl)
  rw [f_Mo_readOff] at hf
  refine lv_iconst (v := 1) hx hb d_Mo_readOff_0 (by decide) ?_
  refine lv_istore_n (lv' := [(1, .int 1), (0, .ref a_p0)]) hx hb d_Mo_readOff_1 rfl hl (by decide) rfl (fun ls hl => ?_)
  refine lv_aload_n hx hb d_Mo_readOff_2 rfl (lv_at hl 1 rfl) ?_
  refine lv_iconst (v := 0) hx hb d_Mo_readOff_3 (by decide) ?_
  refine va_put (D := (dC, dI)) (ci := 4) (v := .int 0) (ty := .int) (C := "FermionMapsModel") (T := F_Mo) (N := 25) hx hb ht0 i_Mo t_Mo t_Mo_ok n_Mo hown hK hP hD hS 0 rfl rfl 15 (by decide) (ht0 _ m_472) (fun _ h9 => h9) rfl (by decide +kernel) rfl rfl (Nat.le_of_ble_eq_true rfl) d_Mo_readOff_4 (fun H locs hP hD hS => ?_)
  have hP : va_P (dC, dI) cls [(a_p0, .inr (4, [.int thrown, .int modes, .int products, .ref z_upsOf, .ref z_downsOf, .ref z_numberOf, .int wayKind, .ref z_rowOf, .ref z_writes, .ref z_reads, .int isImageKnown, .int madeState, .int madeSign, .ref z_matrix, .ref a_other, .int 0, .ref a_newUps, .ref a_newDowns, .ref a_newNumber, .ref a_found, .ref z_image, .ref z_imagePlace, .int imagePower, .int imageMany, .int imageWires])), (a_other, .inl (cJ, 65536, .inr (.inl other))), (a_newUps, .inl (cI, 60, .inl newUps)), (a_newDowns, .inl (cI, 60, .inl newDowns)), (a_newNumber, .inl (cJ, 60, .inr (.inl newNumber))), (a_found, .inl (cJ, 65536, .inr (.inl found)))] H := hP
  have hD : va_D A [(a_p0, .inr (4, [.int thrown, .int modes, .int products, .ref z_upsOf, .ref z_downsOf, .ref z_numberOf, .int wayKind, .ref z_rowOf, .ref z_writes, .ref z_reads, .int isImageKnown, .int madeState, .int madeSign, .ref z_matrix, .ref a_other, .int 0, .ref a_newUps, .ref a_newDowns, .ref a_newNumber, .ref a_found, .ref z_image, .ref z_imagePlace, .int imagePower, .int imageMany, .int imageWires])), (a_other, .inl (cJ, 65536, .inr (.inl other))), (a_newUps, .inl (cI, 60, .inl newUps)), (a_newDowns, .inl (cI, 60, .inl newDowns)), (a_newNumber, .inl (cJ, 60, .inr (.inl newNumber))), (a_found, .inl (cJ, 65536, .inr (.inl found)))] := hD
  refine lv_iconst (v := 0) hx hb d_Mo_readOff_7 (by decide) ?_
  refine lv_istore_n (lv' := [(2, .int 0), (1, .int 1), (0, .ref a_p0)]) hx hb d_Mo_readOff_8 rfl hl (by decide) rfl (fun ls hl => ?_)
  exact B_9 F 1 0 madeState madeSign 0 newUps newDowns newNumber found H locs ls hf hP hD hS (lv_sub hl [2, 1, 0] rfl)

/-! FermionMapsModel.ladder(IZZ)I -/
def f_Mo_ladder (F : Nat) (thrown : Int32) (modes : Int32) (products : Int32) (isImageKnown : Int32) (madeState : Int32) (madeSign : Int32) (newMany : Int32) (upsOf : Nat → Int32) (downsOf : Nat → Int32) (numberOf : Nat → Int64) (matrix : Nat → Int64) (other : Nat → Int64) (newUps : Nat → Int32) (newDowns : Nat → Int32) (newNumber : Nat → Int64) (found : Nat → Int64) (p1 : Int32) (p2 : Int32) (p3 : Int32) : Option (Int32 × Int32 × Int32 × Int32 × Int32 × Int32 × Int32 × (Nat → Int32) × (Nat → Int32) × (Nat → Int64) × (Nat → Int64) × (Nat → Int64) × (Nat → Int32) × (Nat → Int32) × (Nat → Int64) × (Nat → Int64)) :=
  if p1 < 0 then
    some ((-1), 0, products, isImageKnown, madeState, madeSign, newMany, upsOf, downsOf, numberOf, matrix, other, newUps, newDowns, newNumber, found)
  else
    if p1 < modes then
      (f_Mo_fillMatrix F modes products madeState madeSign upsOf downsOf numberOf matrix).bind fun u_3 =>
      (f_Mo_multiply F modes u_3.1 u_3.2.1 u_3.2.2 other p1 p2 p3).bind fun u_4 =>
      (f_Mo_readOff F modes u_4.1 u_4.2.1 newMany u_4.2.2 newUps newDowns newNumber found).bind fun u_5 =>
      if u_5.1 = 0 then
        some ((-1), 0, products, isImageKnown, u_5.2.1, u_5.2.2.1, u_5.2.2.2.1, upsOf, downsOf, numberOf, u_3.2.2, u_4.2.2, u_5.2.2.2.2.1, u_5.2.2.2.2.2.1, u_5.2.2.2.2.2.2.1, u_5.2.2.2.2.2.2.2)
      else
        (f_Mo_take F products isImageKnown u_5.2.2.2.1 upsOf downsOf numberOf u_5.2.2.2.2.1 u_5.2.2.2.2.2.1 u_5.2.2.2.2.2.2.1).bind fun u_7 =>
        some (u_7.1, 0, u_7.2.1, u_7.2.2.1, u_5.2.1, u_5.2.2.1, u_5.2.2.2.1, u_7.2.2.2.1, u_7.2.2.2.2.1, u_7.2.2.2.2.2, u_3.2.2, u_4.2.2, u_5.2.2.2.2.1, u_5.2.2.2.2.2.1, u_5.2.2.2.2.2.2.1, u_5.2.2.2.2.2.2.2)
    else
      some ((-1), 0, products, isImageKnown, madeState, madeSign, newMany, upsOf, downsOf, numberOf, matrix, other, newUps, newDowns, newNumber, found)
abbrev rm_Mo_ladder : Room := { frames := 4, cells := 0, slots := 0, locals := 96 }
set_option maxHeartbeats 4000000 in
set_option maxRecDepth 100000 in
theorem c_Mo_ladder (l : Launch) (dC : Nat → ClassId) (dI : Nat → Nat → Nat) (cI cJ : ClassId) (a_p0 a_upsOf a_downsOf a_numberOf a_matrix a_other a_newUps a_newDowns a_newNumber a_found z_rowOf z_writes z_reads z_image z_imagePlace : Nat) (sz : Nat) (thrown : Int32) (modes : Int32) (products : Int32) (wayKind : Int32) (isImageKnown : Int32) (madeState : Int32) (madeSign : Int32) (newMany : Int32) (imagePower : Int32) (imageMany : Int32) (imageWires : Int32) (upsOf : Nat → Int32) (downsOf : Nat → Int32) (numberOf : Nat → Int64) (matrix : Nat → Int64) (other : Nat → Int64) (newUps : Nat → Int32) (newDowns : Nat → Int32) (newNumber : Nat → Int64) (found : Nat → Int64) (p1 : Int32) (p2 : Int32) (p3 : Int32) (F : Nat) (u : Int32 × Int32 × Int32 × Int32 × Int32 × Int32 × Int32 × (Nat → Int32) × (Nat → Int32) × (Nat → Int64) × (Nat → Int64) × (Nat → Int64) × (Nat → Int32) × (Nat → Int32) × (Nat → Int64) × (Nat → Int64)) (hf : f_Mo_ladder F thrown modes products isImageKnown madeState madeSign newMany upsOf downsOf numberOf matrix other newUps newDowns newNumber found p1 p2 p3 = some u) : Met l y_Mo_ladder (Cond.code y_Mo_ladder prog_6_method_17_code 4 (some .int) :: T0) rm_Mo_ladder (va_Pc [.ref a_p0, .int p1, .int p2, .int p3] (Ww (dC, dI) [(a_p0, .inr (4, [.int thrown, .int modes, .int products, .ref a_upsOf, .ref a_downsOf, .ref a_numberOf, .int wayKind, .ref z_rowOf, .ref z_writes, .ref z_reads, .int isImageKnown, .int madeState, .int madeSign, .ref a_matrix, .ref a_other, .int newMany, .ref a_newUps, .ref a_newDowns, .ref a_newNumber, .ref a_found, .ref z_image, .ref z_imagePlace, .int imagePower, .int imageMany, .int imageWires])), (a_upsOf, .inl (cI, 60, .inl upsOf)), (a_downsOf, .inl (cI, 60, .inl downsOf)), (a_numberOf, .inl (cJ, 60, .inr (.inl numberOf))), (a_matrix, .inl (cJ, 65536, .inr (.inl matrix))), (a_other, .inl (cJ, 65536, .inr (.inl other))), (a_newUps, .inl (cI, 60, .inl newUps)), (a_newDowns, .inl (cI, 60, .inl newDowns)), (a_newNumber, .inl (cJ, 60, .inr (.inl newNumber))), (a_found, .inl (cJ, 65536, .inr (.inl found)))] [(cI, .int), (cJ, .long)] sz)) (va_Qi (fun r (_ : Unit) => r = u.1) (Bw (dC, dI) [(cI, .int), (cJ, .long)] (va_A [(a_p0, .inr (4, [.int thrown, .int modes, .int products, .ref a_upsOf, .ref a_downsOf, .ref a_numberOf, .int wayKind, .ref z_rowOf, .ref z_writes, .ref z_reads, .int isImageKnown, .int madeState, .int madeSign, .ref a_matrix, .ref a_other, .int newMany, .ref a_newUps, .ref a_newDowns, .ref a_newNumber, .ref a_found, .ref z_image, .ref z_imagePlace, .int imagePower, .int imageMany, .int imageWires])), (a_upsOf, .inl (cI, 60, .inl upsOf)), (a_downsOf, .inl (cI, 60, .inl downsOf)), (a_numberOf, .inl (cJ, 60, .inr (.inl numberOf))), (a_matrix, .inl (cJ, 65536, .inr (.inl matrix))), (a_other, .inl (cJ, 65536, .inr (.inl other))), (a_newUps, .inl (cI, 60, .inl newUps)), (a_newDowns, .inl (cI, 60, .inl newDowns)), (a_newNumber, .inl (cJ, 60, .inr (.inl newNumber))), (a_found, .inl (cJ, 65536, .inr (.inl found)))] sz) (fun w1 => w1 = [(a_p0, .inr (4, [.int u.2.1, .int modes, .int u.2.2.1, .ref a_upsOf, .ref a_downsOf, .ref a_numberOf, .int wayKind, .ref z_rowOf, .ref z_writes, .ref z_reads, .int u.2.2.2.1, .int u.2.2.2.2.1, .int u.2.2.2.2.2.1, .ref a_matrix, .ref a_other, .int u.2.2.2.2.2.2.1, .ref a_newUps, .ref a_newDowns, .ref a_newNumber, .ref a_found, .ref z_image, .ref z_imagePlace, .int imagePower, .int imageMany, .int imageWires])), (a_upsOf, .inl (cI, 60, .inl u.2.2.2.2.2.2.2.1)), (a_downsOf, .inl (cI, 60, .inl u.2.2.2.2.2.2.2.2.1)), (a_numberOf, .inl (cJ, 60, .inr (.inl u.2.2.2.2.2.2.2.2.2.1))), (a_matrix, .inl (cJ, 65536, .inr (.inl u.2.2.2.2.2.2.2.2.2.2.1))), (a_other, .inl (cJ, 65536, .inr (.inl u.2.2.2.2.2.2.2.2.2.2.2.1))), (a_newUps, .inl (cI, 60, .inl u.2.2.2.2.2.2.2.2.2.2.2.2.1)), (a_newDowns, .inl (cI, 60, .inl u.2.2.2.2.2.2.2.2.2.2.2.2.2.1)), (a_newNumber, .inl (cJ, 60, .inr (.inl u.2.2.2.2.2.2.2.2.2.2.2.2.2.2.1))), (a_found, .inl (cJ, 65536, .inr (.inl u.2.2.2.2.2.2.2.2.2.2.2.2.2.2.2)))])) (va_A [(a_p0, .inr (4, [.int thrown, .int modes, .int products, .ref a_upsOf, .ref a_downsOf, .ref a_numberOf, .int wayKind, .ref z_rowOf, .ref z_writes, .ref z_reads, .int isImageKnown, .int madeState, .int madeSign, .ref a_matrix, .ref a_other, .int newMany, .ref a_newUps, .ref a_newDowns, .ref a_newNumber, .ref a_found, .ref z_image, .ref z_imagePlace, .int imagePower, .int imageMany, .int imageWires])), (a_upsOf, .inl (cI, 60, .inl upsOf)), (a_downsOf, .inl (cI, 60, .inl downsOf)), (a_numberOf, .inl (cJ, 60, .inr (.inl numberOf))), (a_matrix, .inl (cJ, 65536, .inr (.inl matrix))), (a_other, .inl (cJ, 65536, .inr (.inl other))), (a_newUps, .inl (cI, 60, .inl newUps)), (a_newDowns, .inl (cI, 60, .inl newDowns)), (a_newNumber, .inl (cJ, 60, .inr (.inl newNumber))), (a_found, .inl (cJ, 65536, .inr (.inl found)))] sz)) 0 0 (va_A [(a_p0, .inr (4, [.int thrown, .int modes, .int products, .ref a_upsOf, .ref a_downsOf, .ref a_numberOf, .int wayKind, .ref z_rowOf, .ref z_writes, .ref z_reads, .int isImageKnown, .int madeState, .int madeSign, .ref a_matrix, .ref a_other, .int newMany, .ref a_newUps, .ref a_newDowns, .ref a_newNumber, .ref a_found, .ref z_image, .ref z_imagePlace, .int imagePower, .int imageMany, .int imageWires])), (a_upsOf, .inl (cI, 60, .inl upsOf)), (a_downsOf, .inl (cI, 60, .inl downsOf)), (a_numberOf, .inl (cJ, 60, .inr (.inl numberOf))), (a_matrix, .inl (cJ, 65536, .inr (.inl matrix))), (a_other, .inl (cJ, 65536, .inr (.inl other))), (a_newUps, .inl (cI, 60, .inl newUps)), (a_newDowns, .inl (cI, 60, .inl newDowns)), (a_newNumber, .inl (cJ, 60, .inr (.inl newNumber))), (a_found, .inl (cJ, 65536, .inr (.inl found)))] sz) := by
  refine Met.ofW (cc := prog_6_method_17_code) (maxL := 4) (ret := (some .int)) (by decide) rfl ?_
  intro p e s m args below meth c s₁ B hml hv
  obtain ⟨rfl, hsz, hP, hK, hD0, hNW⟩ := hv
  have hx := B.exec
  have hb := B.bytes
  have hr := B.returns
  have hts := atoms_spec (ws := Cond.code y_Mo_ladder prog_6_method_17_code 4 (some .int) :: T0) B.pre
  have ht0 : ∀ w ∈ T0, w.before ([.ref a_p0, .int p1, .int p2, .int p3] : List Value).toArray s = true := fun w h => hts w (List.mem_cons_of_mem _ h)
  have hown : s.vm.findClass "FermionMapsModel" = some m.cls := findClass_of_methodNamed B.named
  have hlocks := B.notSynchronized
  subst hsz
  have hD := hD0.self (sz := s.heap.size)
  generalize hAe : va_A [(a_p0, .inr (4, [.int thrown, .int modes, .int products, .ref a_upsOf, .ref a_downsOf, .ref a_numberOf, .int wayKind, .ref z_rowOf, .ref z_writes, .ref z_reads, .int isImageKnown, .int madeState, .int madeSign, .ref a_matrix, .ref a_other, .int newMany, .ref a_newUps, .ref a_newDowns, .ref a_newNumber, .ref a_found, .ref z_image, .ref z_imagePlace, .int imagePower, .int imageMany, .int imageWires])), (a_upsOf, .inl (cI, 60, .inl upsOf)), (a_downsOf, .inl (cI, 60, .inl downsOf)), (a_numberOf, .inl (cJ, 60, .inr (.inl numberOf))), (a_matrix, .inl (cJ, 65536, .inr (.inl matrix))), (a_other, .inl (cJ, 65536, .inr (.inl other))), (a_newUps, .inl (cI, 60, .inl newUps)), (a_newDowns, .inl (cI, 60, .inl newDowns)), (a_newNumber, .inl (cJ, 60, .inr (.inl newNumber))), (a_found, .inl (cJ, 65536, .inr (.inl found)))] s.heap.size = A at hD ⊢
  have hA : ∀ q : Nat, s.heap.size ≤ q → A q := fun q h => by rw [← hAe]; exact Or.inr h
  have hS : va_S A s.heap s.heap [] := va_S.rf
  have hl := lv_entry ([.ref a_p0, .int p1, .int p2, .int p3]) (n := 4) (Nat.le_of_ble_eq_true rfl)
  rw [lg_entry_eq]
  generalize (lg_sl ([.ref a_p0, .int p1, .int p2, .int p3]) ++ List.replicate (4 - (lg_sl ([.ref a_p0, .int p1, .int p2, .int p3])).length) Slot.unset).toArray = ls at hl ⊢
  have hl : lv_has ls 4 [(0, .ref a_p0), (1, .int p1), (2, .int p2), (3, .int p3)] := hl
  refine W.nameQ (fun Q hQ => ?_)
  rw [f_Mo_ladder] at hf
  refine lv_aload_n hx hb d_Mo_ladder_0 rfl (lv_at hl 0 rfl) ?_
  refine lv_iconst (v := 0) hx hb d_Mo_ladder_1 (by decide) ?_
  refine va_put (D := (dC, dI)) (ci := 4) (v := .int 0) (ty := .int) (C := "FermionMapsModel") (T := F_Mo) (N := 25) hx hb ht0 i_Mo t_Mo t_Mo_ok n_Mo hown hK hP hD hS 0 rfl rfl 0 (by decide) (ht0 _ m_457) (fun _ h9 => h9) rfl (by decide +kernel) rfl rfl (Nat.le_of_ble_eq_true rfl) d_Mo_ladder_2 (fun H locs hP hD hS => ?_)
  have hP : va_P (dC, dI) cls [(a_p0, .inr (4, [.int 0, .int modes, .int products, .ref a_upsOf, .ref a_downsOf, .ref a_numberOf, .int wayKind, .ref z_rowOf, .ref z_writes, .ref z_reads, .int isImageKnown, .int madeState, .int madeSign, .ref a_matrix, .ref a_other, .int newMany, .ref a_newUps, .ref a_newDowns, .ref a_newNumber, .ref a_found, .ref z_image, .ref z_imagePlace, .int imagePower, .int imageMany, .int imageWires])), (a_upsOf, .inl (cI, 60, .inl upsOf)), (a_downsOf, .inl (cI, 60, .inl downsOf)), (a_numberOf, .inl (cJ, 60, .inr (.inl numberOf))), (a_matrix, .inl (cJ, 65536, .inr (.inl matrix))), (a_other, .inl (cJ, 65536, .inr (.inl other))), (a_newUps, .inl (cI, 60, .inl newUps)), (a_newDowns, .inl (cI, 60, .inl newDowns)), (a_newNumber, .inl (cJ, 60, .inr (.inl newNumber))), (a_found, .inl (cJ, 65536, .inr (.inl found)))] H := hP
  have hD : va_D A [(a_p0, .inr (4, [.int 0, .int modes, .int products, .ref a_upsOf, .ref a_downsOf, .ref a_numberOf, .int wayKind, .ref z_rowOf, .ref z_writes, .ref z_reads, .int isImageKnown, .int madeState, .int madeSign, .ref a_matrix, .ref a_other, .int newMany, .ref a_newUps, .ref a_newDowns, .ref a_newNumber, .ref a_found, .ref z_image, .ref z_imagePlace, .int imagePower, .int imageMany, .int imageWires])), (a_upsOf, .inl (cI, 60, .inl upsOf)), (a_downsOf, .inl (cI, 60, .inl downsOf)), (a_numberOf, .inl (cJ, 60, .inr (.inl numberOf))), (a_matrix, .inl (cJ, 65536, .inr (.inl matrix))), (a_other, .inl (cJ, 65536, .inr (.inl other))), (a_newUps, .inl (cI, 60, .inl newUps)), (a_newDowns, .inl (cI, 60, .inl newDowns)), (a_newNumber, .inl (cJ, 60, .inr (.inl newNumber))), (a_found, .inl (cJ, 65536, .inr (.inl found)))] := hD
  refine lv_iload_n hx hb d_Mo_ladder_5 rfl (lv_at hl 1 rfl) ?_
  refine lv_if_lt (tgt := 17) hx hb d_Mo_ladder_6 (by decide) (fun c_1 => ?_) (fun c_1 => ?_)
  · replace hf := if_t c_1 hf
    refine lv_iconst (v := (-1)) hx hb d_Mo_ladder_17 (by decide) ?_
    have hu := Option.some.inj hf
    subst hu
    exact rw_i hQ rfl rfl hP hD hK hS hx hb hr hlocks d_Mo_ladder_18
  · replace hf := if_f c_1 hf
    refine lv_iload_n hx hb d_Mo_ladder_9 rfl (lv_at hl 1 rfl) ?_
    refine lv_aload_n hx hb d_Mo_ladder_10 rfl (lv_at hl 0 rfl) ?_
    refine va_get (D := (dC, dI)) (ci := 4) (v := .int modes) (C := "FermionMapsModel") (T := F_Mo) (N := 25) hx hb ht0 i_Mo hown hK hP 0 rfl rfl 1 (by decide) (ht0 _ m_458) (fun _ h9 => h9) rfl d_Mo_ladder_11 ?_
    refine lv_icmp_lt (tgt := 19) hx hb d_Mo_ladder_14 (by decide) (fun c_2 => ?_) (fun c_2 => ?_)
    · replace hf := if_t c_2 hf
      refine lv_aload_n hx hb d_Mo_ladder_19 rfl (lv_at hl 0 rfl) ?_
      obtain ⟨u_3, h_u_3, hf⟩ := bd hf
      refine wr_v (wr := [(a_other, .inl (cJ, 65536, .inr (.inl other))), (a_newUps, .inl (cI, 60, .inl newUps)), (a_newDowns, .inl (cI, 60, .inl newDowns)), (a_newNumber, .inl (cJ, 60, .inr (.inl newNumber))), (a_found, .inl (cJ, 65536, .inr (.inl found)))]) (wrV_run (As := []) (rest := []) ⟨hx, hb, hml, hown, ht0⟩ (c_Mo_fillMatrix l dC dI cI cJ a_p0 a_upsOf a_downsOf a_numberOf a_matrix z_rowOf z_writes z_reads a_other a_newUps a_newDowns a_newNumber a_found z_image z_imagePlace H.size 0 modes products wayKind isImageKnown madeState madeSign newMany imagePower imageMany imageWires upsOf downsOf numberOf matrix F u_3 h_u_3) (cwV 0 ht0 (gV m_563 m_565 (T0_pr (y := ⟨"FermionMapsModel", "fillMatrix", "()V"⟩) (i := 10) rfl rfl) m_5 m_566) rfl rfl rfl (by decide +kernel) ⟨Nat.le_of_ble_eq_true rfl, Nat.le_of_ble_eq_true rfl⟩) hK hNW hP hD [0, 1, 2, 3, 4] rfl rfl (by decide) (ci := 4) (q0 := 0) rfl rfl rfl hl.1 rfl (Nat.le_of_ble_eq_true rfl) d_Mo_ladder_20 ⟨Nat.zero_le _, Nat.zero_le _⟩) hP hD hS hA [0, 1, 2, 3, 4] [5, 6, 7, 8, 9] rfl rfl (by decide) (by decide) (fun w1 H locs hw hP hD hS => ?_)
      obtain rfl := hw
      have hP : va_P (dC, dI) cls [(a_p0, .inr (4, [.int 0, .int modes, .int products, .ref a_upsOf, .ref a_downsOf, .ref a_numberOf, .int wayKind, .ref z_rowOf, .ref z_writes, .ref z_reads, .int isImageKnown, .int u_3.1, .int u_3.2.1, .ref a_matrix, .ref a_other, .int newMany, .ref a_newUps, .ref a_newDowns, .ref a_newNumber, .ref a_found, .ref z_image, .ref z_imagePlace, .int imagePower, .int imageMany, .int imageWires])), (a_upsOf, .inl (cI, 60, .inl upsOf)), (a_downsOf, .inl (cI, 60, .inl downsOf)), (a_numberOf, .inl (cJ, 60, .inr (.inl numberOf))), (a_matrix, .inl (cJ, 65536, .inr (.inl u_3.2.2))), (a_other, .inl (cJ, 65536, .inr (.inl other))), (a_newUps, .inl (cI, 60, .inl newUps)), (a_newDowns, .inl (cI, 60, .inl newDowns)), (a_newNumber, .inl (cJ, 60, .inr (.inl newNumber))), (a_found, .inl (cJ, 65536, .inr (.inl found)))] H := hP.sub [5, 6, 7, 8, 9, 0, 1, 2, 3, 4] rfl
      have hD : va_D A [(a_p0, .inr (4, [.int 0, .int modes, .int products, .ref a_upsOf, .ref a_downsOf, .ref a_numberOf, .int wayKind, .ref z_rowOf, .ref z_writes, .ref z_reads, .int isImageKnown, .int u_3.1, .int u_3.2.1, .ref a_matrix, .ref a_other, .int newMany, .ref a_newUps, .ref a_newDowns, .ref a_newNumber, .ref a_found, .ref z_image, .ref z_imagePlace, .int imagePower, .int imageMany, .int imageWires])), (a_upsOf, .inl (cI, 60, .inl upsOf)), (a_downsOf, .inl (cI, 60, .inl downsOf)), (a_numberOf, .inl (cJ, 60, .inr (.inl numberOf))), (a_matrix, .inl (cJ, 65536, .inr (.inl u_3.2.2))), (a_other, .inl (cJ, 65536, .inr (.inl other))), (a_newUps, .inl (cI, 60, .inl newUps)), (a_newDowns, .inl (cI, 60, .inl newDowns)), (a_newNumber, .inl (cJ, 60, .inr (.inl newNumber))), (a_found, .inl (cJ, 65536, .inr (.inl found)))] := hD.sub [5, 6, 7, 8, 9, 0, 1, 2, 3, 4] (by decide) rfl
      refine lv_aload_n hx hb d_Mo_ladder_23 rfl (lv_at hl 0 rfl) ?_
      refine lv_iload_n hx hb d_Mo_ladder_24 rfl (lv_at hl 1 rfl) ?_
      refine lv_iload_n hx hb d_Mo_ladder_25 rfl (lv_at hl 2 rfl) ?_
      refine lv_iload_n hx hb d_Mo_ladder_26 rfl (lv_at hl 3 rfl) ?_
      obtain ⟨u_4, h_u_4, hf⟩ := bd hf
      refine wr_v (wr := [(a_upsOf, .inl (cI, 60, .inl upsOf)), (a_downsOf, .inl (cI, 60, .inl downsOf)), (a_numberOf, .inl (cJ, 60, .inr (.inl numberOf))), (a_newUps, .inl (cI, 60, .inl newUps)), (a_newDowns, .inl (cI, 60, .inl newDowns)), (a_newNumber, .inl (cJ, 60, .inr (.inl newNumber))), (a_found, .inl (cJ, 65536, .inr (.inl found)))]) (wrV_run (As := [.int p1, .int p2, .int p3]) (rest := []) ⟨hx, hb, hml, hown, ht0⟩ (c_Mo_multiply l dC dI cI cJ a_p0 a_matrix a_other a_upsOf a_downsOf a_numberOf z_rowOf z_writes z_reads a_newUps a_newDowns a_newNumber a_found z_image z_imagePlace H.size 0 modes products wayKind isImageKnown u_3.1 u_3.2.1 newMany imagePower imageMany imageWires u_3.2.2 other p1 p2 p3 F u_4 h_u_4) (cwV 3 ht0 (gV m_575 m_577 (T0_pr (y := ⟨"FermionMapsModel", "multiply", "(IZZ)V"⟩) (i := 13) rfl rfl) m_5 m_578) rfl rfl rfl (by decide +kernel) ⟨Nat.le_of_ble_eq_true rfl, Nat.le_of_ble_eq_true rfl⟩) hK hNW hP hD [0, 4, 5] rfl rfl (by decide) (ci := 4) (q0 := 0) rfl rfl rfl hl.1 rfl (Nat.le_of_ble_eq_true rfl) d_Mo_ladder_27 ⟨Nat.zero_le _, Nat.zero_le _⟩) hP hD hS hA [0, 4, 5] [1, 2, 3, 6, 7, 8, 9] rfl rfl (by decide) (by decide) (fun w1 H locs hw hP hD hS => ?_)
      obtain rfl := hw
      have hP : va_P (dC, dI) cls [(a_p0, .inr (4, [.int 0, .int modes, .int products, .ref a_upsOf, .ref a_downsOf, .ref a_numberOf, .int wayKind, .ref z_rowOf, .ref z_writes, .ref z_reads, .int isImageKnown, .int u_4.1, .int u_4.2.1, .ref a_matrix, .ref a_other, .int newMany, .ref a_newUps, .ref a_newDowns, .ref a_newNumber, .ref a_found, .ref z_image, .ref z_imagePlace, .int imagePower, .int imageMany, .int imageWires])), (a_upsOf, .inl (cI, 60, .inl upsOf)), (a_downsOf, .inl (cI, 60, .inl downsOf)), (a_numberOf, .inl (cJ, 60, .inr (.inl numberOf))), (a_matrix, .inl (cJ, 65536, .inr (.inl u_3.2.2))), (a_other, .inl (cJ, 65536, .inr (.inl u_4.2.2))), (a_newUps, .inl (cI, 60, .inl newUps)), (a_newDowns, .inl (cI, 60, .inl newDowns)), (a_newNumber, .inl (cJ, 60, .inr (.inl newNumber))), (a_found, .inl (cJ, 65536, .inr (.inl found)))] H := hP.sub [7, 0, 1, 2, 8, 9, 3, 4, 5, 6] rfl
      have hD : va_D A [(a_p0, .inr (4, [.int 0, .int modes, .int products, .ref a_upsOf, .ref a_downsOf, .ref a_numberOf, .int wayKind, .ref z_rowOf, .ref z_writes, .ref z_reads, .int isImageKnown, .int u_4.1, .int u_4.2.1, .ref a_matrix, .ref a_other, .int newMany, .ref a_newUps, .ref a_newDowns, .ref a_newNumber, .ref a_found, .ref z_image, .ref z_imagePlace, .int imagePower, .int imageMany, .int imageWires])), (a_upsOf, .inl (cI, 60, .inl upsOf)), (a_downsOf, .inl (cI, 60, .inl downsOf)), (a_numberOf, .inl (cJ, 60, .inr (.inl numberOf))), (a_matrix, .inl (cJ, 65536, .inr (.inl u_3.2.2))), (a_other, .inl (cJ, 65536, .inr (.inl u_4.2.2))), (a_newUps, .inl (cI, 60, .inl newUps)), (a_newDowns, .inl (cI, 60, .inl newDowns)), (a_newNumber, .inl (cJ, 60, .inr (.inl newNumber))), (a_found, .inl (cJ, 65536, .inr (.inl found)))] := hD.sub [7, 0, 1, 2, 8, 9, 3, 4, 5, 6] (by decide) rfl
      refine lv_aload_n hx hb d_Mo_ladder_30 rfl (lv_at hl 0 rfl) ?_
      obtain ⟨u_5, h_u_5, hf⟩ := bd hf
      refine wr_i (wr := [(a_upsOf, .inl (cI, 60, .inl upsOf)), (a_downsOf, .inl (cI, 60, .inl downsOf)), (a_numberOf, .inl (cJ, 60, .inr (.inl numberOf))), (a_matrix, .inl (cJ, 65536, .inr (.inl u_3.2.2)))]) (wrV_run (As := []) (rest := []) ⟨hx, hb, hml, hown, ht0⟩ (c_Mo_readOff l dC dI cI cJ a_p0 a_other a_newUps a_newDowns a_newNumber a_found a_upsOf a_downsOf a_numberOf z_rowOf z_writes z_reads a_matrix z_image z_imagePlace H.size 0 modes products wayKind isImageKnown u_4.1 u_4.2.1 newMany imagePower imageMany imageWires u_4.2.2 newUps newDowns newNumber found F u_5 h_u_5) (cwV 0 ht0 (gV m_579 m_581 (T0_pr (y := ⟨"FermionMapsModel", "readOff", "()Z"⟩) (i := 14) rfl rfl) m_5 m_582) rfl rfl rfl (by decide +kernel) ⟨Nat.le_of_ble_eq_true rfl, Nat.le_of_ble_eq_true rfl⟩) hK hNW hP hD [0, 5, 6, 7, 8, 9] rfl rfl (by decide) (ci := 4) (q0 := 0) rfl rfl rfl hl.1 rfl (Nat.le_of_ble_eq_true rfl) d_Mo_ladder_31 ⟨Nat.zero_le _, Nat.zero_le _⟩) hP hD hS hA [0, 5, 6, 7, 8, 9] [1, 2, 3, 4] rfl rfl (by decide) (by decide) (fun w1 H locs hw hP hD hS => ?_)
      obtain rfl := hw
      have hP : va_P (dC, dI) cls [(a_p0, .inr (4, [.int 0, .int modes, .int products, .ref a_upsOf, .ref a_downsOf, .ref a_numberOf, .int wayKind, .ref z_rowOf, .ref z_writes, .ref z_reads, .int isImageKnown, .int u_5.2.1, .int u_5.2.2.1, .ref a_matrix, .ref a_other, .int u_5.2.2.2.1, .ref a_newUps, .ref a_newDowns, .ref a_newNumber, .ref a_found, .ref z_image, .ref z_imagePlace, .int imagePower, .int imageMany, .int imageWires])), (a_upsOf, .inl (cI, 60, .inl upsOf)), (a_downsOf, .inl (cI, 60, .inl downsOf)), (a_numberOf, .inl (cJ, 60, .inr (.inl numberOf))), (a_matrix, .inl (cJ, 65536, .inr (.inl u_3.2.2))), (a_other, .inl (cJ, 65536, .inr (.inl u_4.2.2))), (a_newUps, .inl (cI, 60, .inl u_5.2.2.2.2.1)), (a_newDowns, .inl (cI, 60, .inl u_5.2.2.2.2.2.1)), (a_newNumber, .inl (cJ, 60, .inr (.inl u_5.2.2.2.2.2.2.1))), (a_found, .inl (cJ, 65536, .inr (.inl u_5.2.2.2.2.2.2.2)))] H := hP.sub [4, 0, 1, 2, 3, 5, 6, 7, 8, 9] rfl
      have hD : va_D A [(a_p0, .inr (4, [.int 0, .int modes, .int products, .ref a_upsOf, .ref a_downsOf, .ref a_numberOf, .int wayKind, .ref z_rowOf, .ref z_writes, .ref z_reads, .int isImageKnown, .int u_5.2.1, .int u_5.2.2.1, .ref a_matrix, .ref a_other, .int u_5.2.2.2.1, .ref a_newUps, .ref a_newDowns, .ref a_newNumber, .ref a_found, .ref z_image, .ref z_imagePlace, .int imagePower, .int imageMany, .int imageWires])), (a_upsOf, .inl (cI, 60, .inl upsOf)), (a_downsOf, .inl (cI, 60, .inl downsOf)), (a_numberOf, .inl (cJ, 60, .inr (.inl numberOf))), (a_matrix, .inl (cJ, 65536, .inr (.inl u_3.2.2))), (a_other, .inl (cJ, 65536, .inr (.inl u_4.2.2))), (a_newUps, .inl (cI, 60, .inl u_5.2.2.2.2.1)), (a_newDowns, .inl (cI, 60, .inl u_5.2.2.2.2.2.1)), (a_newNumber, .inl (cJ, 60, .inr (.inl u_5.2.2.2.2.2.2.1))), (a_found, .inl (cJ, 65536, .inr (.inl u_5.2.2.2.2.2.2.2)))] := hD.sub [4, 0, 1, 2, 3, 5, 6, 7, 8, 9] (by decide) rfl
      refine lv_if_eq (tgt := 44) hx hb d_Mo_ladder_34 (by decide) (fun c_6 => ?_) (fun c_6 => ?_)
      · replace hf := if_t c_6 hf
        refine lv_iconst (v := (-1)) hx hb d_Mo_ladder_44 (by decide) ?_
        have hu := Option.some.inj hf
        subst hu
        exact rw_i hQ rfl rfl hP hD hK hS hx hb hr hlocks d_Mo_ladder_45
      · replace hf := if_f c_6 hf
        refine lv_aload_n hx hb d_Mo_ladder_37 rfl (lv_at hl 0 rfl) ?_
        obtain ⟨u_7, h_u_7, hf⟩ := bd hf
        refine wr_i (wr := [(a_matrix, .inl (cJ, 65536, .inr (.inl u_3.2.2))), (a_other, .inl (cJ, 65536, .inr (.inl u_4.2.2))), (a_found, .inl (cJ, 65536, .inr (.inl u_5.2.2.2.2.2.2.2)))]) (wrV_run (As := []) (rest := []) ⟨hx, hb, hml, hown, ht0⟩ (c_Mo_take l dC dI cI cJ a_p0 a_upsOf a_downsOf a_numberOf a_newUps a_newDowns a_newNumber z_rowOf z_writes z_reads a_matrix a_other a_found z_image z_imagePlace H.size 0 modes products wayKind isImageKnown u_5.2.1 u_5.2.2.1 u_5.2.2.2.1 imagePower imageMany imageWires upsOf downsOf numberOf u_5.2.2.2.2.1 u_5.2.2.2.2.2.1 u_5.2.2.2.2.2.2.1 F u_7 h_u_7) (cwV 0 ht0 (gV m_555 m_557 (T0_pr (y := ⟨"FermionMapsModel", "take", "()I"⟩) (i := 9) rfl rfl) m_5 m_558) rfl rfl rfl (by decide +kernel) ⟨Nat.le_of_ble_eq_true rfl, Nat.le_of_ble_eq_true rfl⟩) hK hNW hP hD [0, 1, 2, 3, 6, 7, 8] rfl rfl (by decide) (ci := 4) (q0 := 0) rfl rfl rfl hl.1 rfl (Nat.le_of_ble_eq_true rfl) d_Mo_ladder_38 ⟨Nat.zero_le _, Nat.zero_le _⟩) hP hD hS hA [0, 1, 2, 3, 6, 7, 8] [4, 5, 9] rfl rfl (by decide) (by decide) (fun w1 H locs hw hP hD hS => ?_)
        obtain rfl := hw
        have hP : va_P (dC, dI) cls [(a_p0, .inr (4, [.int 0, .int modes, .int u_7.2.1, .ref a_upsOf, .ref a_downsOf, .ref a_numberOf, .int wayKind, .ref z_rowOf, .ref z_writes, .ref z_reads, .int u_7.2.2.1, .int u_5.2.1, .int u_5.2.2.1, .ref a_matrix, .ref a_other, .int u_5.2.2.2.1, .ref a_newUps, .ref a_newDowns, .ref a_newNumber, .ref a_found, .ref z_image, .ref z_imagePlace, .int imagePower, .int imageMany, .int imageWires])), (a_upsOf, .inl (cI, 60, .inl u_7.2.2.2.1)), (a_downsOf, .inl (cI, 60, .inl u_7.2.2.2.2.1)), (a_numberOf, .inl (cJ, 60, .inr (.inl u_7.2.2.2.2.2))), (a_matrix, .inl (cJ, 65536, .inr (.inl u_3.2.2))), (a_other, .inl (cJ, 65536, .inr (.inl u_4.2.2))), (a_newUps, .inl (cI, 60, .inl u_5.2.2.2.2.1)), (a_newDowns, .inl (cI, 60, .inl u_5.2.2.2.2.2.1)), (a_newNumber, .inl (cJ, 60, .inr (.inl u_5.2.2.2.2.2.2.1))), (a_found, .inl (cJ, 65536, .inr (.inl u_5.2.2.2.2.2.2.2)))] H := hP.sub [3, 4, 5, 6, 0, 1, 7, 8, 9, 2] rfl
        have hD : va_D A [(a_p0, .inr (4, [.int 0, .int modes, .int u_7.2.1, .ref a_upsOf, .ref a_downsOf, .ref a_numberOf, .int wayKind, .ref z_rowOf, .ref z_writes, .ref z_reads, .int u_7.2.2.1, .int u_5.2.1, .int u_5.2.2.1, .ref a_matrix, .ref a_other, .int u_5.2.2.2.1, .ref a_newUps, .ref a_newDowns, .ref a_newNumber, .ref a_found, .ref z_image, .ref z_imagePlace, .int imagePower, .int imageMany, .int imageWires])), (a_upsOf, .inl (cI, 60, .inl u_7.2.2.2.1)), (a_downsOf, .inl (cI, 60, .inl u_7.2.2.2.2.1)), (a_numberOf, .inl (cJ, 60, .inr (.inl u_7.2.2.2.2.2))), (a_matrix, .inl (cJ, 65536, .inr (.inl u_3.2.2))), (a_other, .inl (cJ, 65536, .inr (.inl u_4.2.2))), (a_newUps, .inl (cI, 60, .inl u_5.2.2.2.2.1)), (a_newDowns, .inl (cI, 60, .inl u_5.2.2.2.2.2.1)), (a_newNumber, .inl (cJ, 60, .inr (.inl u_5.2.2.2.2.2.2.1))), (a_found, .inl (cJ, 65536, .inr (.inl u_5.2.2.2.2.2.2.2)))] := hD.sub [3, 4, 5, 6, 0, 1, 7, 8, 9, 2] (by decide) rfl
        refine lv_goto (tgt := 45) hx hb d_Mo_ladder_41 (by decide) ?_
        have hu := Option.some.inj hf
        subst hu
        exact rw_i hQ rfl rfl hP hD hK hS hx hb hr hlocks d_Mo_ladder_45
    · replace hf := if_f c_2 hf
      refine lv_iconst (v := (-1)) hx hb d_Mo_ladder_17 (by decide) ?_
      have hu := Option.some.inj hf
      subst hu
      exact rw_i hQ rfl rfl hP hD hK hS hx hb hr hlocks d_Mo_ladder_18
