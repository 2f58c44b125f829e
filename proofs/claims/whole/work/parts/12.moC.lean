theorem d_Mo_addUp_0 : decode prog_6_method_28_code 0 = .ok (.iconst 1, 1) := by decide +kernel
theorem d_Mo_addUp_1 : decode prog_6_method_28_code 1 = .ok (.istore_n 2, 1) := by decide +kernel
theorem d_Mo_addUp_2 : decode prog_6_method_28_code 2 = .ok (.iload_n 2, 1) := by decide +kernel
theorem d_Mo_addUp_3 : decode prog_6_method_28_code 3 = .ok (.aload_n 0, 1) := by decide +kernel
theorem d_Mo_addUp_4 : decode prog_6_method_28_code 4 = .ok (.invokevirtual 65, 3) := by decide +kernel
theorem d_Mo_addUp_7 : decode prog_6_method_28_code 7 = .ok (.if_icmp .ge 85, 3) := by decide +kernel
theorem d_Mo_addUp_10 : decode prog_6_method_28_code 10 = .ok (.iconst 0, 1) := by decide +kernel
theorem d_Mo_addUp_11 : decode prog_6_method_28_code 11 = .ok (.istore_n 3, 1) := by decide +kernel
theorem d_Mo_addUp_12 : decode prog_6_method_28_code 12 = .ok (.iload_n 3, 1) := by decide +kernel
theorem d_Mo_addUp_13 : decode prog_6_method_28_code 13 = .ok (.aload_n 0, 1) := by decide +kernel
theorem d_Mo_addUp_14 : decode prog_6_method_28_code 14 = .ok (.invokevirtual 65, 3) := by decide +kernel
theorem d_Mo_addUp_17 : decode prog_6_method_28_code 17 = .ok (.if_icmp .ge 68, 3) := by decide +kernel
theorem d_Mo_addUp_20 : decode prog_6_method_28_code 20 = .ok (.iload_n 3, 1) := by decide +kernel
theorem d_Mo_addUp_21 : decode prog_6_method_28_code 21 = .ok (.iload_n 2, 1) := by decide +kernel
theorem d_Mo_addUp_22 : decode prog_6_method_28_code 22 = .ok (.iand, 1) := by decide +kernel
theorem d_Mo_addUp_23 : decode prog_6_method_28_code 23 = .ok (.ifCond .eq 6, 3) := by decide +kernel
theorem d_Mo_addUp_26 : decode prog_6_method_28_code 26 = .ok (.goto 53, 3) := by decide +kernel
theorem d_Mo_addUp_29 : decode prog_6_method_28_code 29 = .ok (.aload_n 0, 1) := by decide +kernel
theorem d_Mo_addUp_30 : decode prog_6_method_28_code 30 = .ok (.getfield 48, 3) := by decide +kernel
theorem d_Mo_addUp_33 : decode prog_6_method_28_code 33 = .ok (.iload_n 1, 1) := by decide +kernel
theorem d_Mo_addUp_34 : decode prog_6_method_28_code 34 = .ok (.iload_n 3, 1) := by decide +kernel
theorem d_Mo_addUp_35 : decode prog_6_method_28_code 35 = .ok (.iadd, 1) := by decide +kernel
theorem d_Mo_addUp_36 : decode prog_6_method_28_code 36 = .ok (.laload, 1) := by decide +kernel
theorem d_Mo_addUp_37 : decode prog_6_method_28_code 37 = .ok (.lstore 4, 2) := by decide +kernel
theorem d_Mo_addUp_39 : decode prog_6_method_28_code 39 = .ok (.aload_n 0, 1) := by decide +kernel
theorem d_Mo_addUp_40 : decode prog_6_method_28_code 40 = .ok (.getfield 48, 3) := by decide +kernel
theorem d_Mo_addUp_43 : decode prog_6_method_28_code 43 = .ok (.iload_n 1, 1) := by decide +kernel
theorem d_Mo_addUp_44 : decode prog_6_method_28_code 44 = .ok (.iload_n 3, 1) := by decide +kernel
theorem d_Mo_addUp_45 : decode prog_6_method_28_code 45 = .ok (.iadd, 1) := by decide +kernel
theorem d_Mo_addUp_46 : decode prog_6_method_28_code 46 = .ok (.iload_n 2, 1) := by decide +kernel
theorem d_Mo_addUp_47 : decode prog_6_method_28_code 47 = .ok (.iadd, 1) := by decide +kernel
theorem d_Mo_addUp_48 : decode prog_6_method_28_code 48 = .ok (.laload, 1) := by decide +kernel
theorem d_Mo_addUp_49 : decode prog_6_method_28_code 49 = .ok (.lstore 6, 2) := by decide +kernel
theorem d_Mo_addUp_51 : decode prog_6_method_28_code 51 = .ok (.aload_n 0, 1) := by decide +kernel
theorem d_Mo_addUp_52 : decode prog_6_method_28_code 52 = .ok (.getfield 48, 3) := by decide +kernel
theorem d_Mo_addUp_55 : decode prog_6_method_28_code 55 = .ok (.iload_n 1, 1) := by decide +kernel
theorem d_Mo_addUp_56 : decode prog_6_method_28_code 56 = .ok (.iload_n 3, 1) := by decide +kernel
theorem d_Mo_addUp_57 : decode prog_6_method_28_code 57 = .ok (.iadd, 1) := by decide +kernel
theorem d_Mo_addUp_58 : decode prog_6_method_28_code 58 = .ok (.lload 4, 2) := by decide +kernel
theorem d_Mo_addUp_60 : decode prog_6_method_28_code 60 = .ok (.lload 6, 2) := by decide +kernel
theorem d_Mo_addUp_62 : decode prog_6_method_28_code 62 = .ok (.ladd, 1) := by decide +kernel
theorem d_Mo_addUp_63 : decode prog_6_method_28_code 63 = .ok (.lastore, 1) := by decide +kernel
theorem d_Mo_addUp_64 : decode prog_6_method_28_code 64 = .ok (.aload_n 0, 1) := by decide +kernel
theorem d_Mo_addUp_65 : decode prog_6_method_28_code 65 = .ok (.getfield 48, 3) := by decide +kernel
theorem d_Mo_addUp_68 : decode prog_6_method_28_code 68 = .ok (.iload_n 1, 1) := by decide +kernel
theorem d_Mo_addUp_69 : decode prog_6_method_28_code 69 = .ok (.iload_n 3, 1) := by decide +kernel
theorem d_Mo_addUp_70 : decode prog_6_method_28_code 70 = .ok (.iadd, 1) := by decide +kernel
theorem d_Mo_addUp_71 : decode prog_6_method_28_code 71 = .ok (.iload_n 2, 1) := by decide +kernel
theorem d_Mo_addUp_72 : decode prog_6_method_28_code 72 = .ok (.iadd, 1) := by decide +kernel
theorem d_Mo_addUp_73 : decode prog_6_method_28_code 73 = .ok (.lload 4, 2) := by decide +kernel
theorem d_Mo_addUp_75 : decode prog_6_method_28_code 75 = .ok (.lload 6, 2) := by decide +kernel
theorem d_Mo_addUp_77 : decode prog_6_method_28_code 77 = .ok (.lsub, 1) := by decide +kernel
theorem d_Mo_addUp_78 : decode prog_6_method_28_code 78 = .ok (.lastore, 1) := by decide +kernel
theorem d_Mo_addUp_79 : decode prog_6_method_28_code 79 = .ok (.iinc 3 1, 3) := by decide +kernel
theorem d_Mo_addUp_82 : decode prog_6_method_28_code 82 = .ok (.goto (-70), 3) := by decide +kernel
theorem d_Mo_addUp_85 : decode prog_6_method_28_code 85 = .ok (.iconst 2, 1) := by decide +kernel
theorem d_Mo_addUp_86 : decode prog_6_method_28_code 86 = .ok (.iload_n 2, 1) := by decide +kernel
theorem d_Mo_addUp_87 : decode prog_6_method_28_code 87 = .ok (.imul, 1) := by decide +kernel
theorem d_Mo_addUp_88 : decode prog_6_method_28_code 88 = .ok (.istore_n 2, 1) := by decide +kernel
theorem d_Mo_addUp_89 : decode prog_6_method_28_code 89 = .ok (.goto (-87), 3) := by decide +kernel
theorem d_Mo_addUp_92 : decode prog_6_method_28_code 92 = .ok (.return_, 1) := by decide +kernel
theorem d_Mo_listImage_0 : decode prog_6_method_30_code 0 = .ok (.aload_n 0, 1) := by decide +kernel
theorem d_Mo_listImage_1 : decode prog_6_method_30_code 1 = .ok (.iconst 0, 1) := by decide +kernel
theorem d_Mo_listImage_2 : decode prog_6_method_30_code 2 = .ok (.putfield 139, 3) := by decide +kernel
theorem d_Mo_listImage_5 : decode prog_6_method_30_code 5 = .ok (.aload_n 0, 1) := by decide +kernel
theorem d_Mo_listImage_6 : decode prog_6_method_30_code 6 = .ok (.iconst 0, 1) := by decide +kernel
theorem d_Mo_listImage_7 : decode prog_6_method_30_code 7 = .ok (.putfield 144, 3) := by decide +kernel
theorem d_Mo_listImage_10 : decode prog_6_method_30_code 10 = .ok (.iconst 0, 1) := by decide +kernel
theorem d_Mo_listImage_11 : decode prog_6_method_30_code 11 = .ok (.istore_n 1, 1) := by decide +kernel
theorem d_Mo_listImage_12 : decode prog_6_method_30_code 12 = .ok (.iload_n 1, 1) := by decide +kernel
theorem d_Mo_listImage_13 : decode prog_6_method_30_code 13 = .ok (.aload_n 0, 1) := by decide +kernel
theorem d_Mo_listImage_14 : decode prog_6_method_30_code 14 = .ok (.invokevirtual 65, 3) := by decide +kernel
theorem d_Mo_listImage_17 : decode prog_6_method_30_code 17 = .ok (.if_icmp .ge 101, 3) := by decide +kernel
theorem d_Mo_listImage_20 : decode prog_6_method_30_code 20 = .ok (.iconst 0, 1) := by decide +kernel
theorem d_Mo_listImage_21 : decode prog_6_method_30_code 21 = .ok (.istore_n 2, 1) := by decide +kernel
theorem d_Mo_listImage_22 : decode prog_6_method_30_code 22 = .ok (.iload_n 2, 1) := by decide +kernel
theorem d_Mo_listImage_23 : decode prog_6_method_30_code 23 = .ok (.aload_n 0, 1) := by decide +kernel
theorem d_Mo_listImage_24 : decode prog_6_method_30_code 24 = .ok (.invokevirtual 65, 3) := by decide +kernel
theorem d_Mo_listImage_27 : decode prog_6_method_30_code 27 = .ok (.if_icmp .ge 85, 3) := by decide +kernel
theorem d_Mo_listImage_30 : decode prog_6_method_30_code 30 = .ok (.aload_n 0, 1) := by decide +kernel
theorem d_Mo_listImage_31 : decode prog_6_method_30_code 31 = .ok (.getfield 48, 3) := by decide +kernel
theorem d_Mo_listImage_34 : decode prog_6_method_30_code 34 = .ok (.sipush 256, 3) := by decide +kernel
theorem d_Mo_listImage_37 : decode prog_6_method_30_code 37 = .ok (.iload_n 1, 1) := by decide +kernel
theorem d_Mo_listImage_38 : decode prog_6_method_30_code 38 = .ok (.imul, 1) := by decide +kernel
theorem d_Mo_listImage_39 : decode prog_6_method_30_code 39 = .ok (.iload_n 2, 1) := by decide +kernel
theorem d_Mo_listImage_40 : decode prog_6_method_30_code 40 = .ok (.iadd, 1) := by decide +kernel
theorem d_Mo_listImage_41 : decode prog_6_method_30_code 41 = .ok (.laload, 1) := by decide +kernel
theorem d_Mo_listImage_42 : decode prog_6_method_30_code 42 = .ok (.lconst 0, 1) := by decide +kernel
theorem d_Mo_listImage_43 : decode prog_6_method_30_code 43 = .ok (.lcmp, 1) := by decide +kernel
theorem d_Mo_listImage_44 : decode prog_6_method_30_code 44 = .ok (.ifCond .ne 6, 3) := by decide +kernel
theorem d_Mo_listImage_47 : decode prog_6_method_30_code 47 = .ok (.goto 59, 3) := by decide +kernel
theorem d_Mo_listImage_50 : decode prog_6_method_30_code 50 = .ok (.aload_n 0, 1) := by decide +kernel
theorem d_Mo_listImage_51 : decode prog_6_method_30_code 51 = .ok (.getfield 51, 3) := by decide +kernel
theorem d_Mo_listImage_54 : decode prog_6_method_30_code 54 = .ok (.aload_n 0, 1) := by decide +kernel
theorem d_Mo_listImage_55 : decode prog_6_method_30_code 55 = .ok (.getfield 139, 3) := by decide +kernel
theorem d_Mo_listImage_58 : decode prog_6_method_30_code 58 = .ok (.sipush 256, 3) := by decide +kernel
theorem d_Mo_listImage_61 : decode prog_6_method_30_code 61 = .ok (.iload_n 1, 1) := by decide +kernel
theorem d_Mo_listImage_62 : decode prog_6_method_30_code 62 = .ok (.imul, 1) := by decide +kernel
theorem d_Mo_listImage_63 : decode prog_6_method_30_code 63 = .ok (.iload_n 2, 1) := by decide +kernel
theorem d_Mo_listImage_64 : decode prog_6_method_30_code 64 = .ok (.iadd, 1) := by decide +kernel
theorem d_Mo_listImage_65 : decode prog_6_method_30_code 65 = .ok (.iastore, 1) := by decide +kernel
theorem d_Mo_listImage_66 : decode prog_6_method_30_code 66 = .ok (.aload_n 0, 1) := by decide +kernel
theorem d_Mo_listImage_67 : decode prog_6_method_30_code 67 = .ok (.dup, 1) := by decide +kernel
theorem d_Mo_listImage_68 : decode prog_6_method_30_code 68 = .ok (.getfield 139, 3) := by decide +kernel
theorem d_Mo_listImage_71 : decode prog_6_method_30_code 71 = .ok (.iconst 1, 1) := by decide +kernel
theorem d_Mo_listImage_72 : decode prog_6_method_30_code 72 = .ok (.iadd, 1) := by decide +kernel
theorem d_Mo_listImage_73 : decode prog_6_method_30_code 73 = .ok (.putfield 139, 3) := by decide +kernel
theorem d_Mo_listImage_76 : decode prog_6_method_30_code 76 = .ok (.aload_n 0, 1) := by decide +kernel
theorem d_Mo_listImage_77 : decode prog_6_method_30_code 77 = .ok (.iload_n 1, 1) := by decide +kernel
theorem d_Mo_listImage_78 : decode prog_6_method_30_code 78 = .ok (.iload_n 2, 1) := by decide +kernel
theorem d_Mo_listImage_79 : decode prog_6_method_30_code 79 = .ok (.ior, 1) := by decide +kernel
theorem d_Mo_listImage_80 : decode prog_6_method_30_code 80 = .ok (.invokestatic 81, 3) := by decide +kernel
theorem d_Mo_listImage_83 : decode prog_6_method_30_code 83 = .ok (.aload_n 0, 1) := by decide +kernel
theorem d_Mo_listImage_84 : decode prog_6_method_30_code 84 = .ok (.getfield 144, 3) := by decide +kernel
theorem d_Mo_listImage_87 : decode prog_6_method_30_code 87 = .ok (.if_icmp .le 12, 3) := by decide +kernel
theorem d_Mo_listImage_90 : decode prog_6_method_30_code 90 = .ok (.iload_n 1, 1) := by decide +kernel
theorem d_Mo_listImage_91 : decode prog_6_method_30_code 91 = .ok (.iload_n 2, 1) := by decide +kernel
theorem d_Mo_listImage_92 : decode prog_6_method_30_code 92 = .ok (.ior, 1) := by decide +kernel
theorem d_Mo_listImage_93 : decode prog_6_method_30_code 93 = .ok (.invokestatic 81, 3) := by decide +kernel
theorem d_Mo_listImage_96 : decode prog_6_method_30_code 96 = .ok (.goto 7, 3) := by decide +kernel
theorem d_Mo_listImage_99 : decode prog_6_method_30_code 99 = .ok (.aload_n 0, 1) := by decide +kernel
theorem d_Mo_listImage_100 : decode prog_6_method_30_code 100 = .ok (.getfield 144, 3) := by decide +kernel
theorem d_Mo_listImage_103 : decode prog_6_method_30_code 103 = .ok (.putfield 144, 3) := by decide +kernel
theorem d_Mo_listImage_106 : decode prog_6_method_30_code 106 = .ok (.iinc 2 1, 3) := by decide +kernel
theorem d_Mo_listImage_109 : decode prog_6_method_30_code 109 = .ok (.goto (-87), 3) := by decide +kernel
theorem d_Mo_listImage_112 : decode prog_6_method_30_code 112 = .ok (.iinc 1 1, 3) := by decide +kernel
theorem d_Mo_listImage_115 : decode prog_6_method_30_code 115 = .ok (.goto (-103), 3) := by decide +kernel
theorem d_Mo_listImage_118 : decode prog_6_method_30_code 118 = .ok (.return_, 1) := by decide +kernel
theorem d_Mo_isAllEven_0 : decode prog_6_method_29_code 0 = .ok (.iconst 0, 1) := by decide +kernel
theorem d_Mo_isAllEven_1 : decode prog_6_method_29_code 1 = .ok (.istore_n 1, 1) := by decide +kernel
theorem d_Mo_isAllEven_2 : decode prog_6_method_29_code 2 = .ok (.iload_n 1, 1) := by decide +kernel
theorem d_Mo_isAllEven_3 : decode prog_6_method_29_code 3 = .ok (.aload_n 0, 1) := by decide +kernel
theorem d_Mo_isAllEven_4 : decode prog_6_method_29_code 4 = .ok (.getfield 139, 3) := by decide +kernel
theorem d_Mo_isAllEven_7 : decode prog_6_method_29_code 7 = .ok (.if_icmp .ge 31, 3) := by decide +kernel
theorem d_Mo_isAllEven_10 : decode prog_6_method_29_code 10 = .ok (.aload_n 0, 1) := by decide +kernel
theorem d_Mo_isAllEven_11 : decode prog_6_method_29_code 11 = .ok (.getfield 48, 3) := by decide +kernel
theorem d_Mo_isAllEven_14 : decode prog_6_method_29_code 14 = .ok (.aload_n 0, 1) := by decide +kernel
theorem d_Mo_isAllEven_15 : decode prog_6_method_29_code 15 = .ok (.getfield 51, 3) := by decide +kernel
theorem d_Mo_isAllEven_18 : decode prog_6_method_29_code 18 = .ok (.iload_n 1, 1) := by decide +kernel
theorem d_Mo_isAllEven_19 : decode prog_6_method_29_code 19 = .ok (.iaload, 1) := by decide +kernel
theorem d_Mo_isAllEven_20 : decode prog_6_method_29_code 20 = .ok (.laload, 1) := by decide +kernel
theorem d_Mo_isAllEven_21 : decode prog_6_method_29_code 21 = .ok (.ldc2_w 142, 3) := by decide +kernel
theorem d_Mo_isAllEven_24 : decode prog_6_method_29_code 24 = .ok (.lrem, 1) := by decide +kernel
theorem d_Mo_isAllEven_25 : decode prog_6_method_29_code 25 = .ok (.lconst 0, 1) := by decide +kernel
theorem d_Mo_isAllEven_26 : decode prog_6_method_29_code 26 = .ok (.lcmp, 1) := by decide +kernel
theorem d_Mo_isAllEven_27 : decode prog_6_method_29_code 27 = .ok (.ifCond .eq 5, 3) := by decide +kernel
theorem d_Mo_isAllEven_30 : decode prog_6_method_29_code 30 = .ok (.iconst 0, 1) := by decide +kernel
theorem d_Mo_isAllEven_31 : decode prog_6_method_29_code 31 = .ok (.ireturn, 1) := by decide +kernel
theorem d_Mo_isAllEven_32 : decode prog_6_method_29_code 32 = .ok (.iinc 1 1, 3) := by decide +kernel
theorem d_Mo_isAllEven_35 : decode prog_6_method_29_code 35 = .ok (.goto (-33), 3) := by decide +kernel
theorem d_Mo_isAllEven_38 : decode prog_6_method_29_code 38 = .ok (.iconst 1, 1) := by decide +kernel
theorem d_Mo_isAllEven_39 : decode prog_6_method_29_code 39 = .ok (.ireturn, 1) := by decide +kernel
theorem d_Mo_findImage_0 : decode prog_6_method_31_code 0 = .ok (.aload_n 0, 1) := by decide +kernel
theorem d_Mo_findImage_1 : decode prog_6_method_31_code 1 = .ok (.getfield 103, 3) := by decide +kernel
theorem d_Mo_findImage_4 : decode prog_6_method_31_code 4 = .ok (.ifCond .eq 4, 3) := by decide +kernel
theorem d_Mo_findImage_7 : decode prog_6_method_31_code 7 = .ok (.return_, 1) := by decide +kernel
theorem d_Mo_findImage_8 : decode prog_6_method_31_code 8 = .ok (.aload_n 0, 1) := by decide +kernel
theorem d_Mo_findImage_9 : decode prog_6_method_31_code 9 = .ok (.iconst 1, 1) := by decide +kernel
theorem d_Mo_findImage_10 : decode prog_6_method_31_code 10 = .ok (.putfield 103, 3) := by decide +kernel
theorem d_Mo_findImage_13 : decode prog_6_method_31_code 13 = .ok (.aload_n 0, 1) := by decide +kernel
theorem d_Mo_findImage_14 : decode prog_6_method_31_code 14 = .ok (.invokevirtual 118, 3) := by decide +kernel
theorem d_Mo_findImage_17 : decode prog_6_method_31_code 17 = .ok (.iconst 0, 1) := by decide +kernel
theorem d_Mo_findImage_18 : decode prog_6_method_31_code 18 = .ok (.istore_n 1, 1) := by decide +kernel
theorem d_Mo_findImage_19 : decode prog_6_method_31_code 19 = .ok (.iload_n 1, 1) := by decide +kernel
theorem d_Mo_findImage_20 : decode prog_6_method_31_code 20 = .ok (.aload_n 0, 1) := by decide +kernel
theorem d_Mo_findImage_21 : decode prog_6_method_31_code 21 = .ok (.invokevirtual 65, 3) := by decide +kernel
theorem d_Mo_findImage_24 : decode prog_6_method_31_code 24 = .ok (.if_icmp .ge 70, 3) := by decide +kernel
theorem d_Mo_findImage_27 : decode prog_6_method_31_code 27 = .ok (.iconst 0, 1) := by decide +kernel
theorem d_Mo_findImage_28 : decode prog_6_method_31_code 28 = .ok (.istore_n 2, 1) := by decide +kernel
theorem d_Mo_findImage_29 : decode prog_6_method_31_code 29 = .ok (.iload_n 2, 1) := by decide +kernel
theorem d_Mo_findImage_30 : decode prog_6_method_31_code 30 = .ok (.aload_n 0, 1) := by decide +kernel
theorem d_Mo_findImage_31 : decode prog_6_method_31_code 31 = .ok (.invokevirtual 65, 3) := by decide +kernel
theorem d_Mo_findImage_34 : decode prog_6_method_31_code 34 = .ok (.if_icmp .ge 45, 3) := by decide +kernel
theorem d_Mo_findImage_37 : decode prog_6_method_31_code 37 = .ok (.aload_n 0, 1) := by decide +kernel
theorem d_Mo_findImage_38 : decode prog_6_method_31_code 38 = .ok (.getfield 48, 3) := by decide +kernel
theorem d_Mo_findImage_41 : decode prog_6_method_31_code 41 = .ok (.sipush 256, 3) := by decide +kernel
theorem d_Mo_findImage_44 : decode prog_6_method_31_code 44 = .ok (.iload_n 1, 1) := by decide +kernel
theorem d_Mo_findImage_45 : decode prog_6_method_31_code 45 = .ok (.imul, 1) := by decide +kernel
theorem d_Mo_findImage_46 : decode prog_6_method_31_code 46 = .ok (.iload_n 2, 1) := by decide +kernel
theorem d_Mo_findImage_47 : decode prog_6_method_31_code 47 = .ok (.iadd, 1) := by decide +kernel
theorem d_Mo_findImage_48 : decode prog_6_method_31_code 48 = .ok (.aload_n 0, 1) := by decide +kernel
theorem d_Mo_findImage_49 : decode prog_6_method_31_code 49 = .ok (.getfield 30, 3) := by decide +kernel
theorem d_Mo_findImage_52 : decode prog_6_method_31_code 52 = .ok (.sipush 256, 3) := by decide +kernel
theorem d_Mo_findImage_55 : decode prog_6_method_31_code 55 = .ok (.aload_n 0, 1) := by decide +kernel
theorem d_Mo_findImage_56 : decode prog_6_method_31_code 56 = .ok (.getfield 26, 3) := by decide +kernel
theorem d_Mo_findImage_59 : decode prog_6_method_31_code 59 = .ok (.iload_n 2, 1) := by decide +kernel
theorem d_Mo_findImage_60 : decode prog_6_method_31_code 60 = .ok (.iload_n 1, 1) := by decide +kernel
theorem d_Mo_findImage_61 : decode prog_6_method_31_code 61 = .ok (.ixor, 1) := by decide +kernel
theorem d_Mo_findImage_62 : decode prog_6_method_31_code 62 = .ok (.iaload, 1) := by decide +kernel
theorem d_Mo_findImage_63 : decode prog_6_method_31_code 63 = .ok (.imul, 1) := by decide +kernel
theorem d_Mo_findImage_64 : decode prog_6_method_31_code 64 = .ok (.aload_n 0, 1) := by decide +kernel
theorem d_Mo_findImage_65 : decode prog_6_method_31_code 65 = .ok (.getfield 26, 3) := by decide +kernel
theorem d_Mo_findImage_68 : decode prog_6_method_31_code 68 = .ok (.iload_n 2, 1) := by decide +kernel
theorem d_Mo_findImage_69 : decode prog_6_method_31_code 69 = .ok (.iaload, 1) := by decide +kernel
theorem d_Mo_findImage_70 : decode prog_6_method_31_code 70 = .ok (.iadd, 1) := by decide +kernel
theorem d_Mo_findImage_71 : decode prog_6_method_31_code 71 = .ok (.laload, 1) := by decide +kernel
theorem d_Mo_findImage_72 : decode prog_6_method_31_code 72 = .ok (.lastore, 1) := by decide +kernel
theorem d_Mo_findImage_73 : decode prog_6_method_31_code 73 = .ok (.iinc 2 1, 3) := by decide +kernel
theorem d_Mo_findImage_76 : decode prog_6_method_31_code 76 = .ok (.goto (-47), 3) := by decide +kernel
theorem d_Mo_findImage_79 : decode prog_6_method_31_code 79 = .ok (.aload_n 0, 1) := by decide +kernel
theorem d_Mo_findImage_80 : decode prog_6_method_31_code 80 = .ok (.sipush 256, 3) := by decide +kernel
theorem d_Mo_findImage_83 : decode prog_6_method_31_code 83 = .ok (.iload_n 1, 1) := by decide +kernel
theorem d_Mo_findImage_84 : decode prog_6_method_31_code 84 = .ok (.imul, 1) := by decide +kernel
theorem d_Mo_findImage_85 : decode prog_6_method_31_code 85 = .ok (.invokevirtual 147, 3) := by decide +kernel
theorem d_Mo_findImage_88 : decode prog_6_method_31_code 88 = .ok (.iinc 1 1, 3) := by decide +kernel
theorem d_Mo_findImage_91 : decode prog_6_method_31_code 91 = .ok (.goto (-72), 3) := by decide +kernel
theorem d_Mo_findImage_94 : decode prog_6_method_31_code 94 = .ok (.aload_n 0, 1) := by decide +kernel
theorem d_Mo_findImage_95 : decode prog_6_method_31_code 95 = .ok (.invokevirtual 150, 3) := by decide +kernel
theorem d_Mo_findImage_98 : decode prog_6_method_31_code 98 = .ok (.aload_n 0, 1) := by decide +kernel
theorem d_Mo_findImage_99 : decode prog_6_method_31_code 99 = .ok (.aload_n 0, 1) := by decide +kernel
theorem d_Mo_findImage_100 : decode prog_6_method_31_code 100 = .ok (.getfield 62, 3) := by decide +kernel
theorem d_Mo_findImage_103 : decode prog_6_method_31_code 103 = .ok (.putfield 153, 3) := by decide +kernel
theorem d_Mo_findImage_106 : decode prog_6_method_31_code 106 = .ok (.aload_n 0, 1) := by decide +kernel
theorem d_Mo_findImage_107 : decode prog_6_method_31_code 107 = .ok (.getfield 153, 3) := by decide +kernel
theorem d_Mo_findImage_110 : decode prog_6_method_31_code 110 = .ok (.ifCond .le 65, 3) := by decide +kernel
theorem d_Mo_findImage_113 : decode prog_6_method_31_code 113 = .ok (.aload_n 0, 1) := by decide +kernel
theorem d_Mo_findImage_114 : decode prog_6_method_31_code 114 = .ok (.invokevirtual 156, 3) := by decide +kernel
theorem d_Mo_findImage_117 : decode prog_6_method_31_code 117 = .ok (.ifCond .eq 58, 3) := by decide +kernel
theorem d_Mo_findImage_120 : decode prog_6_method_31_code 120 = .ok (.iconst 0, 1) := by decide +kernel
theorem d_Mo_findImage_121 : decode prog_6_method_31_code 121 = .ok (.istore_n 1, 1) := by decide +kernel
theorem d_Mo_findImage_122 : decode prog_6_method_31_code 122 = .ok (.iload_n 1, 1) := by decide +kernel
theorem d_Mo_findImage_123 : decode prog_6_method_31_code 123 = .ok (.aload_n 0, 1) := by decide +kernel
theorem d_Mo_findImage_124 : decode prog_6_method_31_code 124 = .ok (.getfield 139, 3) := by decide +kernel
theorem d_Mo_findImage_127 : decode prog_6_method_31_code 127 = .ok (.if_icmp .ge 35, 3) := by decide +kernel
theorem d_Mo_findImage_130 : decode prog_6_method_31_code 130 = .ok (.aload_n 0, 1) := by decide +kernel
theorem d_Mo_findImage_131 : decode prog_6_method_31_code 131 = .ok (.getfield 48, 3) := by decide +kernel
theorem d_Mo_findImage_134 : decode prog_6_method_31_code 134 = .ok (.aload_n 0, 1) := by decide +kernel
theorem d_Mo_findImage_135 : decode prog_6_method_31_code 135 = .ok (.getfield 51, 3) := by decide +kernel
theorem d_Mo_findImage_138 : decode prog_6_method_31_code 138 = .ok (.iload_n 1, 1) := by decide +kernel
theorem d_Mo_findImage_139 : decode prog_6_method_31_code 139 = .ok (.iaload, 1) := by decide +kernel
theorem d_Mo_findImage_140 : decode prog_6_method_31_code 140 = .ok (.aload_n 0, 1) := by decide +kernel
theorem d_Mo_findImage_141 : decode prog_6_method_31_code 141 = .ok (.getfield 48, 3) := by decide +kernel
theorem d_Mo_findImage_144 : decode prog_6_method_31_code 144 = .ok (.aload_n 0, 1) := by decide +kernel
theorem d_Mo_findImage_145 : decode prog_6_method_31_code 145 = .ok (.getfield 51, 3) := by decide +kernel
theorem d_Mo_findImage_148 : decode prog_6_method_31_code 148 = .ok (.iload_n 1, 1) := by decide +kernel
theorem d_Mo_findImage_149 : decode prog_6_method_31_code 149 = .ok (.iaload, 1) := by decide +kernel
theorem d_Mo_findImage_150 : decode prog_6_method_31_code 150 = .ok (.laload, 1) := by decide +kernel
theorem d_Mo_findImage_151 : decode prog_6_method_31_code 151 = .ok (.ldc2_w 142, 3) := by decide +kernel
theorem d_Mo_findImage_154 : decode prog_6_method_31_code 154 = .ok (.ldiv, 1) := by decide +kernel
theorem d_Mo_findImage_155 : decode prog_6_method_31_code 155 = .ok (.lastore, 1) := by decide +kernel
theorem d_Mo_findImage_156 : decode prog_6_method_31_code 156 = .ok (.iinc 1 1, 3) := by decide +kernel
theorem d_Mo_findImage_159 : decode prog_6_method_31_code 159 = .ok (.goto (-37), 3) := by decide +kernel
theorem d_Mo_findImage_162 : decode prog_6_method_31_code 162 = .ok (.aload_n 0, 1) := by decide +kernel
theorem d_Mo_findImage_163 : decode prog_6_method_31_code 163 = .ok (.dup, 1) := by decide +kernel
theorem d_Mo_findImage_164 : decode prog_6_method_31_code 164 = .ok (.getfield 153, 3) := by decide +kernel
theorem d_Mo_findImage_167 : decode prog_6_method_31_code 167 = .ok (.iconst 1, 1) := by decide +kernel
theorem d_Mo_findImage_168 : decode prog_6_method_31_code 168 = .ok (.isub, 1) := by decide +kernel
theorem d_Mo_findImage_169 : decode prog_6_method_31_code 169 = .ok (.putfield 153, 3) := by decide +kernel
theorem d_Mo_findImage_172 : decode prog_6_method_31_code 172 = .ok (.goto (-66), 3) := by decide +kernel
theorem d_Mo_findImage_175 : decode prog_6_method_31_code 175 = .ok (.return_, 1) := by decide +kernel
theorem d_Mo_image_0 : decode prog_6_method_32_code 0 = .ok (.aload_n 0, 1) := by decide +kernel
theorem d_Mo_image_1 : decode prog_6_method_32_code 1 = .ok (.iconst 0, 1) := by decide +kernel
theorem d_Mo_image_2 : decode prog_6_method_32_code 2 = .ok (.putfield 58, 3) := by decide +kernel
theorem d_Mo_image_5 : decode prog_6_method_32_code 5 = .ok (.aload_n 0, 1) := by decide +kernel
theorem d_Mo_image_6 : decode prog_6_method_32_code 6 = .ok (.invokevirtual 159, 3) := by decide +kernel
theorem d_Mo_image_9 : decode prog_6_method_32_code 9 = .ok (.iload_n 1, 1) := by decide +kernel
theorem d_Mo_image_10 : decode prog_6_method_32_code 10 = .ok (.iconst (-1), 1) := by decide +kernel
theorem d_Mo_image_11 : decode prog_6_method_32_code 11 = .ok (.if_icmp .ne 9, 3) := by decide +kernel
theorem d_Mo_image_14 : decode prog_6_method_32_code 14 = .ok (.aload_n 0, 1) := by decide +kernel
theorem d_Mo_image_15 : decode prog_6_method_32_code 15 = .ok (.getfield 139, 3) := by decide +kernel
theorem d_Mo_image_18 : decode prog_6_method_32_code 18 = .ok (.i2l, 1) := by decide +kernel
theorem d_Mo_image_19 : decode prog_6_method_32_code 19 = .ok (.lreturn, 1) := by decide +kernel
theorem d_Mo_image_20 : decode prog_6_method_32_code 20 = .ok (.iload_n 1, 1) := by decide +kernel
theorem d_Mo_image_21 : decode prog_6_method_32_code 21 = .ok (.ifCond .lt 20, 3) := by decide +kernel
theorem d_Mo_image_24 : decode prog_6_method_32_code 24 = .ok (.iload_n 1, 1) := by decide +kernel
theorem d_Mo_image_25 : decode prog_6_method_32_code 25 = .ok (.aload_n 0, 1) := by decide +kernel
theorem d_Mo_image_26 : decode prog_6_method_32_code 26 = .ok (.getfield 139, 3) := by decide +kernel
theorem d_Mo_image_29 : decode prog_6_method_32_code 29 = .ok (.if_icmp .ge 12, 3) := by decide +kernel
theorem d_Mo_image_32 : decode prog_6_method_32_code 32 = .ok (.iload_n 2, 1) := by decide +kernel
theorem d_Mo_image_33 : decode prog_6_method_32_code 33 = .ok (.ifCond .lt 8, 3) := by decide +kernel
theorem d_Mo_image_36 : decode prog_6_method_32_code 36 = .ok (.iload_n 2, 1) := by decide +kernel
theorem d_Mo_image_37 : decode prog_6_method_32_code 37 = .ok (.iconst 3, 1) := by decide +kernel
theorem d_Mo_image_38 : decode prog_6_method_32_code 38 = .ok (.if_icmp .le 9, 3) := by decide +kernel
theorem d_Mo_image_41 : decode prog_6_method_32_code 41 = .ok (.aload_n 0, 1) := by decide +kernel
theorem d_Mo_image_42 : decode prog_6_method_32_code 42 = .ok (.invokevirtual 129, 3) := by decide +kernel
theorem d_Mo_image_45 : decode prog_6_method_32_code 45 = .ok (.i2l, 1) := by decide +kernel
theorem d_Mo_image_46 : decode prog_6_method_32_code 46 = .ok (.lreturn, 1) := by decide +kernel
theorem d_Mo_image_47 : decode prog_6_method_32_code 47 = .ok (.aload_n 0, 1) := by decide +kernel
theorem d_Mo_image_48 : decode prog_6_method_32_code 48 = .ok (.getfield 51, 3) := by decide +kernel
theorem d_Mo_image_51 : decode prog_6_method_32_code 51 = .ok (.iload_n 1, 1) := by decide +kernel
theorem d_Mo_image_52 : decode prog_6_method_32_code 52 = .ok (.iaload, 1) := by decide +kernel
theorem d_Mo_image_53 : decode prog_6_method_32_code 53 = .ok (.istore_n 3, 1) := by decide +kernel
theorem d_Mo_image_54 : decode prog_6_method_32_code 54 = .ok (.iload_n 2, 1) := by decide +kernel
theorem d_Mo_image_55 : decode prog_6_method_32_code 55 = .ok (.ifCond .ne 12, 3) := by decide +kernel
theorem d_Mo_image_58 : decode prog_6_method_32_code 58 = .ok (.iload_n 3, 1) := by decide +kernel
theorem d_Mo_image_59 : decode prog_6_method_32_code 59 = .ok (.sipush 256, 3) := by decide +kernel
theorem d_Mo_image_62 : decode prog_6_method_32_code 62 = .ok (.idiv, 1) := by decide +kernel
theorem d_Mo_image_63 : decode prog_6_method_32_code 63 = .ok (.i2l, 1) := by decide +kernel
theorem d_Mo_image_64 : decode prog_6_method_32_code 64 = .ok (.goto 36, 3) := by decide +kernel
theorem d_Mo_image_67 : decode prog_6_method_32_code 67 = .ok (.iload_n 2, 1) := by decide +kernel
theorem d_Mo_image_68 : decode prog_6_method_32_code 68 = .ok (.iconst 1, 1) := by decide +kernel
theorem d_Mo_image_69 : decode prog_6_method_32_code 69 = .ok (.if_icmp .ne 12, 3) := by decide +kernel
theorem d_Mo_image_72 : decode prog_6_method_32_code 72 = .ok (.iload_n 3, 1) := by decide +kernel
theorem d_Mo_image_73 : decode prog_6_method_32_code 73 = .ok (.sipush 256, 3) := by decide +kernel
theorem d_Mo_image_76 : decode prog_6_method_32_code 76 = .ok (.irem, 1) := by decide +kernel
theorem d_Mo_image_77 : decode prog_6_method_32_code 77 = .ok (.i2l, 1) := by decide +kernel
theorem d_Mo_image_78 : decode prog_6_method_32_code 78 = .ok (.goto 22, 3) := by decide +kernel
theorem d_Mo_image_81 : decode prog_6_method_32_code 81 = .ok (.iload_n 2, 1) := by decide +kernel
theorem d_Mo_image_82 : decode prog_6_method_32_code 82 = .ok (.iconst 2, 1) := by decide +kernel
theorem d_Mo_image_83 : decode prog_6_method_32_code 83 = .ok (.if_icmp .ne 12, 3) := by decide +kernel
theorem d_Mo_image_86 : decode prog_6_method_32_code 86 = .ok (.aload_n 0, 1) := by decide +kernel
theorem d_Mo_image_87 : decode prog_6_method_32_code 87 = .ok (.getfield 48, 3) := by decide +kernel
theorem d_Mo_image_90 : decode prog_6_method_32_code 90 = .ok (.iload_n 3, 1) := by decide +kernel
theorem d_Mo_image_91 : decode prog_6_method_32_code 91 = .ok (.laload, 1) := by decide +kernel
theorem d_Mo_image_92 : decode prog_6_method_32_code 92 = .ok (.goto 8, 3) := by decide +kernel
theorem d_Mo_image_95 : decode prog_6_method_32_code 95 = .ok (.aload_n 0, 1) := by decide +kernel
theorem d_Mo_image_96 : decode prog_6_method_32_code 96 = .ok (.getfield 153, 3) := by decide +kernel
theorem d_Mo_image_99 : decode prog_6_method_32_code 99 = .ok (.i2l, 1) := by decide +kernel
theorem d_Mo_image_100 : decode prog_6_method_32_code 100 = .ok (.lreturn, 1) := by decide +kernel
theorem d_Mo_total_0 : decode prog_6_method_33_code 0 = .ok (.aload_n 0, 1) := by decide +kernel
theorem d_Mo_total_1 : decode prog_6_method_33_code 1 = .ok (.iconst 0, 1) := by decide +kernel
theorem d_Mo_total_2 : decode prog_6_method_33_code 2 = .ok (.putfield 58, 3) := by decide +kernel
theorem d_Mo_total_5 : decode prog_6_method_33_code 5 = .ok (.iconst 0, 1) := by decide +kernel
theorem d_Mo_total_6 : decode prog_6_method_33_code 6 = .ok (.istore_n 2, 1) := by decide +kernel
theorem d_Mo_total_7 : decode prog_6_method_33_code 7 = .ok (.iload_n 1, 1) := by decide +kernel
theorem d_Mo_total_8 : decode prog_6_method_33_code 8 = .ok (.tableswitch 115 0 4 #[36, 41, 46, 51, 60], 36) := by decide +kernel
theorem d_Mo_total_44 : decode prog_6_method_33_code 44 = .ok (.aload_n 0, 1) := by decide +kernel
theorem d_Mo_total_45 : decode prog_6_method_33_code 45 = .ok (.getfield 62, 3) := by decide +kernel
theorem d_Mo_total_48 : decode prog_6_method_33_code 48 = .ok (.ireturn, 1) := by decide +kernel
theorem d_Mo_total_49 : decode prog_6_method_33_code 49 = .ok (.aload_n 0, 1) := by decide +kernel
theorem d_Mo_total_50 : decode prog_6_method_33_code 50 = .ok (.getfield 69, 3) := by decide +kernel
theorem d_Mo_total_53 : decode prog_6_method_33_code 53 = .ok (.ireturn, 1) := by decide +kernel
theorem d_Mo_total_54 : decode prog_6_method_33_code 54 = .ok (.aload_n 0, 1) := by decide +kernel
theorem d_Mo_total_55 : decode prog_6_method_33_code 55 = .ok (.getfield 72, 3) := by decide +kernel
theorem d_Mo_total_58 : decode prog_6_method_33_code 58 = .ok (.ireturn, 1) := by decide +kernel
theorem d_Mo_total_59 : decode prog_6_method_33_code 59 = .ok (.aload_n 0, 1) := by decide +kernel
theorem d_Mo_total_60 : decode prog_6_method_33_code 60 = .ok (.invokevirtual 159, 3) := by decide +kernel
theorem d_Mo_total_63 : decode prog_6_method_33_code 63 = .ok (.aload_n 0, 1) := by decide +kernel
theorem d_Mo_total_64 : decode prog_6_method_33_code 64 = .ok (.getfield 144, 3) := by decide +kernel
theorem d_Mo_total_67 : decode prog_6_method_33_code 67 = .ok (.ireturn, 1) := by decide +kernel
theorem d_Mo_total_68 : decode prog_6_method_33_code 68 = .ok (.iconst 0, 1) := by decide +kernel
theorem d_Mo_total_69 : decode prog_6_method_33_code 69 = .ok (.istore_n 3, 1) := by decide +kernel
theorem d_Mo_total_70 : decode prog_6_method_33_code 70 = .ok (.iload_n 3, 1) := by decide +kernel
theorem d_Mo_total_71 : decode prog_6_method_33_code 71 = .ok (.aload_n 0, 1) := by decide +kernel
theorem d_Mo_total_72 : decode prog_6_method_33_code 72 = .ok (.getfield 69, 3) := by decide +kernel
theorem d_Mo_total_75 : decode prog_6_method_33_code 75 = .ok (.if_icmp .ge 38, 3) := by decide +kernel
theorem d_Mo_total_78 : decode prog_6_method_33_code 78 = .ok (.iload_n 2, 1) := by decide +kernel
theorem d_Mo_total_79 : decode prog_6_method_33_code 79 = .ok (.aload_n 0, 1) := by decide +kernel
theorem d_Mo_total_80 : decode prog_6_method_33_code 80 = .ok (.getfield 7, 3) := by decide +kernel
theorem d_Mo_total_83 : decode prog_6_method_33_code 83 = .ok (.iload_n 3, 1) := by decide +kernel
theorem d_Mo_total_84 : decode prog_6_method_33_code 84 = .ok (.iaload, 1) := by decide +kernel
theorem d_Mo_total_85 : decode prog_6_method_33_code 85 = .ok (.invokestatic 81, 3) := by decide +kernel
theorem d_Mo_total_88 : decode prog_6_method_33_code 88 = .ok (.aload_n 0, 1) := by decide +kernel
theorem d_Mo_total_89 : decode prog_6_method_33_code 89 = .ok (.getfield 13, 3) := by decide +kernel
theorem d_Mo_total_92 : decode prog_6_method_33_code 92 = .ok (.iload_n 3, 1) := by decide +kernel
theorem d_Mo_total_93 : decode prog_6_method_33_code 93 = .ok (.iaload, 1) := by decide +kernel
theorem d_Mo_total_94 : decode prog_6_method_33_code 94 = .ok (.invokestatic 81, 3) := by decide +kernel
theorem d_Mo_total_97 : decode prog_6_method_33_code 97 = .ok (.if_icmp .ne 7, 3) := by decide +kernel
theorem d_Mo_total_100 : decode prog_6_method_33_code 100 = .ok (.iconst 0, 1) := by decide +kernel
theorem d_Mo_total_101 : decode prog_6_method_33_code 101 = .ok (.goto 4, 3) := by decide +kernel
theorem d_Mo_total_104 : decode prog_6_method_33_code 104 = .ok (.iconst 1, 1) := by decide +kernel
theorem d_Mo_total_105 : decode prog_6_method_33_code 105 = .ok (.iadd, 1) := by decide +kernel
theorem d_Mo_total_106 : decode prog_6_method_33_code 106 = .ok (.istore_n 2, 1) := by decide +kernel
theorem d_Mo_total_107 : decode prog_6_method_33_code 107 = .ok (.iinc 3 1, 3) := by decide +kernel
theorem d_Mo_total_110 : decode prog_6_method_33_code 110 = .ok (.goto (-40), 3) := by decide +kernel
theorem d_Mo_total_113 : decode prog_6_method_33_code 113 = .ok (.iload_n 2, 1) := by decide +kernel
theorem d_Mo_total_114 : decode prog_6_method_33_code 114 = .ok (.ifCond .ne 7, 3) := by decide +kernel
theorem d_Mo_total_117 : decode prog_6_method_33_code 117 = .ok (.iconst 1, 1) := by decide +kernel
theorem d_Mo_total_118 : decode prog_6_method_33_code 118 = .ok (.goto 4, 3) := by decide +kernel
theorem d_Mo_total_121 : decode prog_6_method_33_code 121 = .ok (.iconst 0, 1) := by decide +kernel
theorem d_Mo_total_122 : decode prog_6_method_33_code 122 = .ok (.ireturn, 1) := by decide +kernel
theorem d_Mo_total_123 : decode prog_6_method_33_code 123 = .ok (.iconst (-1), 1) := by decide +kernel
theorem d_Mo_total_124 : decode prog_6_method_33_code 124 = .ok (.ireturn, 1) := by decide +kernel
/-! FermionMapsModel.addUp(I)V -/
def b_Mo_addUp_79 (F : Nat) (k_2 : Int32 → Int32 → (Nat → Int64) → Option ((Nat → Int64))) (k_12 : Int32 → Int32 → Int32 → (Nat → Int64) → Option ((Nat → Int64))) (modes : Int32) (x1 : Int32) (x2 : Int32) (x3 : Int32) (image : Nat → Int64) : Option ((Nat → Int64)) :=
  nm (x3 + 1 : Int32) fun x3_17 =>
  k_12 x1 x2 x3_17 image
def b_Mo_addUp_12 (F : Nat) (k_2 : Int32 → Int32 → (Nat → Int64) → Option ((Nat → Int64))) (modes : Int32) : Nat → Int32 → Int32 → Int32 → (Nat → Int64) → Option ((Nat → Int64))
  | 0, _, _, _, _ => none
  | n + 1, x1, x2, x3, image =>
    (f_Mo_states F modes).bind fun u_3 =>
    if u_3 ≤ x3 then
      nm ((2 * x2) : Int32) fun x2_5 =>
      k_2 x1 x2_5 image
    else
      if (x3 &&& x2) = 0 then
        nm ((x1 + x3) : Int32) fun t_7 =>
        ckI t_7 65536 <|
        nm ((image t_7.toNatClampNeg) : Int64) fun x4_9 =>
        nm (((x1 + x3) + x2) : Int32) fun t_10 =>
        ckI t_10 65536 <|
        nm ((image t_10.toNatClampNeg) : Int64) fun x6_12 =>
        nm ((x4_9 + x6_12) : Int64) fun t_13 =>
        ckI (x1 + x3) 65536 <|
        nm ((x4_9 - x6_12) : Int64) fun t_15 =>
        ckI ((x1 + x3) + x2) 65536 <|
        b_Mo_addUp_79 F k_2 (b_Mo_addUp_12 F k_2 modes n) modes x1 x2 x3 (vp_updL (vp_updL image (x1 + x3).toNatClampNeg t_13) ((x1 + x3) + x2).toNatClampNeg t_15)
      else
        b_Mo_addUp_79 F k_2 (b_Mo_addUp_12 F k_2 modes n) modes x1 x2 x3 image
def b_Mo_addUp_2 (F : Nat) (modes : Int32) : Nat → Int32 → Int32 → (Nat → Int64) → Option ((Nat → Int64))
  | 0, _, _, _ => none
  | n + 1, x1, x2, image =>
    (f_Mo_states F modes).bind fun u_1 =>
    if u_1 ≤ x2 then
      some (image)
    else
      b_Mo_addUp_12 F (b_Mo_addUp_2 F modes n) modes F x1 x2 0 image
def f_Mo_addUp (F : Nat) (modes : Int32) (image : Nat → Int64) (p1 : Int32) : Option ((Nat → Int64)) :=
  b_Mo_addUp_2 F modes F p1 1 image
abbrev rm_Mo_addUp : Room := { frames := 1, cells := 0, slots := 0, locals := 20 }
set_option maxHeartbeats 4000000 in
set_option maxRecDepth 100000 in
theorem c_Mo_addUp (l : Launch) (dC : Nat → ClassId) (dI : Nat → Nat → Nat) (cI cJ : ClassId) (a_p0 a_image z_upsOf z_downsOf z_numberOf z_rowOf z_writes z_reads z_matrix z_other z_newUps z_newDowns z_newNumber z_found z_imagePlace : Nat) (sz : Nat) (thrown : Int32) (modes : Int32) (products : Int32) (wayKind : Int32) (isImageKnown : Int32) (madeState : Int32) (madeSign : Int32) (newMany : Int32) (imagePower : Int32) (imageMany : Int32) (imageWires : Int32) (image : Nat → Int64) (p1 : Int32) (F : Nat) (u : (Nat → Int64)) (hf : f_Mo_addUp F modes image p1 = some u) : Met l y_Mo_addUp (Cond.code y_Mo_addUp prog_6_method_28_code 8 none :: T0) rm_Mo_addUp (va_Pc [.ref a_p0, .int p1] (Ww (dC, dI) [(a_p0, .inr (4, [.int thrown, .int modes, .int products, .ref z_upsOf, .ref z_downsOf, .ref z_numberOf, .int wayKind, .ref z_rowOf, .ref z_writes, .ref z_reads, .int isImageKnown, .int madeState, .int madeSign, .ref z_matrix, .ref z_other, .int newMany, .ref z_newUps, .ref z_newDowns, .ref z_newNumber, .ref z_found, .ref a_image, .ref z_imagePlace, .int imagePower, .int imageMany, .int imageWires])), (a_image, .inl (cJ, 65536, .inr (.inl image)))] [(cI, .int), (cJ, .long)] sz)) (va_Qv (fun _ : Unit => True) (Bw (dC, dI) [(cI, .int), (cJ, .long)] (va_A [(a_p0, .inr (4, [.int thrown, .int modes, .int products, .ref z_upsOf, .ref z_downsOf, .ref z_numberOf, .int wayKind, .ref z_rowOf, .ref z_writes, .ref z_reads, .int isImageKnown, .int madeState, .int madeSign, .ref z_matrix, .ref z_other, .int newMany, .ref z_newUps, .ref z_newDowns, .ref z_newNumber, .ref z_found, .ref a_image, .ref z_imagePlace, .int imagePower, .int imageMany, .int imageWires])), (a_image, .inl (cJ, 65536, .inr (.inl image)))] sz) (fun w1 => w1 = [(a_p0, .inr (4, [.int thrown, .int modes, .int products, .ref z_upsOf, .ref z_downsOf, .ref z_numberOf, .int wayKind, .ref z_rowOf, .ref z_writes, .ref z_reads, .int isImageKnown, .int madeState, .int madeSign, .ref z_matrix, .ref z_other, .int newMany, .ref z_newUps, .ref z_newDowns, .ref z_newNumber, .ref z_found, .ref a_image, .ref z_imagePlace, .int imagePower, .int imageMany, .int imageWires])), (a_image, .inl (cJ, 65536, .inr (.inl u)))])) (va_A [(a_p0, .inr (4, [.int thrown, .int modes, .int products, .ref z_upsOf, .ref z_downsOf, .ref z_numberOf, .int wayKind, .ref z_rowOf, .ref z_writes, .ref z_reads, .int isImageKnown, .int madeState, .int madeSign, .ref z_matrix, .ref z_other, .int newMany, .ref z_newUps, .ref z_newDowns, .ref z_newNumber, .ref z_found, .ref a_image, .ref z_imagePlace, .int imagePower, .int imageMany, .int imageWires])), (a_image, .inl (cJ, 65536, .inr (.inl image)))] sz)) 0 0 (va_A [(a_p0, .inr (4, [.int thrown, .int modes, .int products, .ref z_upsOf, .ref z_downsOf, .ref z_numberOf, .int wayKind, .ref z_rowOf, .ref z_writes, .ref z_reads, .int isImageKnown, .int madeState, .int madeSign, .ref z_matrix, .ref z_other, .int newMany, .ref z_newUps, .ref z_newDowns, .ref z_newNumber, .ref z_found, .ref a_image, .ref z_imagePlace, .int imagePower, .int imageMany, .int imageWires])), (a_image, .inl (cJ, 65536, .inr (.inl image)))] sz) := by
  refine Met.ofW (cc := prog_6_method_28_code) (maxL := 8) (ret := none) (by decide) rfl ?_
  intro p e s m args below meth c s₁ B hml hv
  obtain ⟨rfl, hsz, hP, hK, hD0, hNW⟩ := hv
  have hx := B.exec
  have hb := B.bytes
  have hr := B.returns
  have hts := atoms_spec (ws := Cond.code y_Mo_addUp prog_6_method_28_code 8 none :: T0) B.pre
  have ht0 : ∀ w ∈ T0, w.before ([.ref a_p0, .int p1] : List Value).toArray s = true := fun w h => hts w (List.mem_cons_of_mem _ h)
  have hown : s.vm.findClass "FermionMapsModel" = some m.cls := findClass_of_methodNamed B.named
  have hlocks := B.notSynchronized
  subst hsz
  have hD := hD0.self (sz := s.heap.size)
  generalize hAe : va_A [(a_p0, .inr (4, [.int thrown, .int modes, .int products, .ref z_upsOf, .ref z_downsOf, .ref z_numberOf, .int wayKind, .ref z_rowOf, .ref z_writes, .ref z_reads, .int isImageKnown, .int madeState, .int madeSign, .ref z_matrix, .ref z_other, .int newMany, .ref z_newUps, .ref z_newDowns, .ref z_newNumber, .ref z_found, .ref a_image, .ref z_imagePlace, .int imagePower, .int imageMany, .int imageWires])), (a_image, .inl (cJ, 65536, .inr (.inl image)))] s.heap.size = A at hD ⊢
  have hA : ∀ q : Nat, s.heap.size ≤ q → A q := fun q h => by rw [← hAe]; exact Or.inr h
  have hS : va_S A s.heap s.heap [] := va_S.rf
  have hl := lv_entry ([.ref a_p0, .int p1]) (n := 8) (Nat.le_of_ble_eq_true rfl)
  rw [lg_entry_eq]
  generalize (lg_sl ([.ref a_p0, .int p1]) ++ List.replicate (8 - (lg_sl ([.ref a_p0, .int p1])).length) Slot.unset).toArray = ls at hl ⊢
  have hl : lv_has ls 8 [(0, .ref a_p0), (1, .int p1)] := hl
  refine W.nameQ (fun Q hQ => ?_)
  have B_79 : ∀ (k_2 : Int32 → Int32 → (Nat → Int64) → Option ((Nat → Int64))) (hk_2 : ∀ (x1 : Int32) (x2 : Int32) (image : Nat → Int64) (H : Heap) (locs : List Loc) (ls : Array Slot), k_2 x1 x2 image = some u → va_P (dC, dI) cls [(a_p0, .inr (4, [.int thrown, .int modes, .int products, .ref z_upsOf, .ref z_downsOf, .ref z_numberOf, .int wayKind, .ref z_rowOf, .ref z_writes, .ref z_reads, .int isImageKnown, .int madeState, .int madeSign, .ref z_matrix, .ref z_other, .int newMany, .ref z_newUps, .ref z_newDowns, .ref z_newNumber, .ref z_found, .ref a_image, .ref z_imagePlace, .int imagePower, .int imageMany, .int imageWires])), (a_image, .inl (cJ, 65536, .inr (.inl image)))] H → va_D A [(a_p0, .inr (4, [.int thrown, .int modes, .int products, .ref z_upsOf, .ref z_downsOf, .ref z_numberOf, .int wayKind, .ref z_rowOf, .ref z_writes, .ref z_reads, .int isImageKnown, .int madeState, .int madeSign, .ref z_matrix, .ref z_other, .int newMany, .ref z_newUps, .ref z_newDowns, .ref z_newNumber, .ref z_found, .ref a_image, .ref z_imagePlace, .int imagePower, .int imageMany, .int imageWires])), (a_image, .inl (cJ, 65536, .inr (.inl image)))] → va_S A s.heap H locs → lv_has ls 8 [(0, .ref a_p0), (1, .int x1), (2, .int x2)] → W p l e (headSpec (Cond.code y_Mo_addUp prog_6_method_28_code 8 none :: T0) rm_Mo_addUp).room s m ([.ref a_p0, .int p1] : List Value).toArray below meth c H locs 0 0 Q (F0 m 2 ls [])) (k_12 : Int32 → Int32 → Int32 → (Nat → Int64) → Option ((Nat → Int64))) (hk_12 : ∀ (x1 : Int32) (x2 : Int32) (x3 : Int32) (image : Nat → Int64) (H : Heap) (locs : List Loc) (ls : Array Slot), k_12 x1 x2 x3 image = some u → va_P (dC, dI) cls [(a_p0, .inr (4, [.int thrown, .int modes, .int products, .ref z_upsOf, .ref z_downsOf, .ref z_numberOf, .int wayKind, .ref z_rowOf, .ref z_writes, .ref z_reads, .int isImageKnown, .int madeState, .int madeSign, .ref z_matrix, .ref z_other, .int newMany, .ref z_newUps, .ref z_newDowns, .ref z_newNumber, .ref z_found, .ref a_image, .ref z_imagePlace, .int imagePower, .int imageMany, .int imageWires])), (a_image, .inl (cJ, 65536, .inr (.inl image)))] H → va_D A [(a_p0, .inr (4, [.int thrown, .int modes, .int products, .ref z_upsOf, .ref z_downsOf, .ref z_numberOf, .int wayKind, .ref z_rowOf, .ref z_writes, .ref z_reads, .int isImageKnown, .int madeState, .int madeSign, .ref z_matrix, .ref z_other, .int newMany, .ref z_newUps, .ref z_newDowns, .ref z_newNumber, .ref z_found, .ref a_image, .ref z_imagePlace, .int imagePower, .int imageMany, .int imageWires])), (a_image, .inl (cJ, 65536, .inr (.inl image)))] → va_S A s.heap H locs → lv_has ls 8 [(0, .ref a_p0), (1, .int x1), (2, .int x2), (3, .int x3)] → W p l e (headSpec (Cond.code y_Mo_addUp prog_6_method_28_code 8 none :: T0) rm_Mo_addUp).room s m ([.ref a_p0, .int p1] : List Value).toArray below meth c H locs 0 0 Q (F0 m 12 ls [])), ∀ (x1 : Int32) (x2 : Int32) (x3 : Int32) (image : Nat → Int64) (H : Heap) (locs : List Loc) (ls : Array Slot), b_Mo_addUp_79 F k_2 k_12 modes x1 x2 x3 image = some u → va_P (dC, dI) cls [(a_p0, .inr (4, [.int thrown, .int modes, .int products, .ref z_upsOf, .ref z_downsOf, .ref z_numberOf, .int wayKind, .ref z_rowOf, .ref z_writes, .ref z_reads, .int isImageKnown, .int madeState, .int madeSign, .ref z_matrix, .ref z_other, .int newMany, .ref z_newUps, .ref z_newDowns, .ref z_newNumber, .ref z_found, .ref a_image, .ref z_imagePlace, .int imagePower, .int imageMany, .int imageWires])), (a_image, .inl (cJ, 65536, .inr (.inl image)))] H → va_D A [(a_p0, .inr (4, [.int thrown, .int modes, .int products, .ref z_upsOf, .ref z_downsOf, .ref z_numberOf, .int wayKind, .ref z_rowOf, .ref z_writes, .ref z_reads, .int isImageKnown, .int madeState, .int madeSign, .ref z_matrix, .ref z_other, .int newMany, .ref z_newUps, .ref z_newDowns, .ref z_newNumber, .ref z_found, .ref a_image, .ref z_imagePlace, .int imagePower, .int imageMany, .int imageWires])), (a_image, .inl (cJ, 65536, .inr (.inl image)))] → va_S A s.heap H locs → lv_has ls 8 [(0, .ref a_p0), (1, .int x1), (2, .int x2), (3, .int x3)] → W p l e (headSpec (Cond.code y_Mo_addUp prog_6_method_28_code 8 none :: T0) rm_Mo_addUp).room s m ([.ref a_p0, .int p1] : List Value).toArray below meth c H locs 0 0 Q (F0 m 79 ls []) := by
    intro k_2 hk_2 k_12 hk_12
    intro x1 x2 x3 image H locs ls hf hP hD hS hl
    rw [b_Mo_addUp_79] at hf
    obtain ⟨x3_17, e_x3_17⟩ : ∃ y : Int32, y = x3 + 1 := ⟨_, rfl⟩
    replace hf := nm_eq e_x3_17 hf
    refine lv_iinc (v := x3_17) (lv' := [(3, .int x3_17), (0, .ref a_p0), (1, .int x1), (2, .int x2)]) hx hb d_Mo_addUp_79 hl (k := 3) rfl (by rw [e_x3_17]; rfl) (by decide) rfl (fun ls hl => ?_)
    refine lv_goto (tgt := 12) hx hb d_Mo_addUp_82 (by decide) ?_
    exact hk_12 x1 x2 x3_17 image H locs ls hf hP hD hS (lv_sub hl [1, 2, 3, 0] rfl)
  have B_12 : ∀ (k_2 : Int32 → Int32 → (Nat → Int64) → Option ((Nat → Int64))) (hk_2 : ∀ (x1 : Int32) (x2 : Int32) (image : Nat → Int64) (H : Heap) (locs : List Loc) (ls : Array Slot), k_2 x1 x2 image = some u → va_P (dC, dI) cls [(a_p0, .inr (4, [.int thrown, .int modes, .int products, .ref z_upsOf, .ref z_downsOf, .ref z_numberOf, .int wayKind, .ref z_rowOf, .ref z_writes, .ref z_reads, .int isImageKnown, .int madeState, .int madeSign, .ref z_matrix, .ref z_other, .int newMany, .ref z_newUps, .ref z_newDowns, .ref z_newNumber, .ref z_found, .ref a_image, .ref z_imagePlace, .int imagePower, .int imageMany, .int imageWires])), (a_image, .inl (cJ, 65536, .inr (.inl image)))] H → va_D A [(a_p0, .inr (4, [.int thrown, .int modes, .int products, .ref z_upsOf, .ref z_downsOf, .ref z_numberOf, .int wayKind, .ref z_rowOf, .ref z_writes, .ref z_reads, .int isImageKnown, .int madeState, .int madeSign, .ref z_matrix, .ref z_other, .int newMany, .ref z_newUps, .ref z_newDowns, .ref z_newNumber, .ref z_found, .ref a_image, .ref z_imagePlace, .int imagePower, .int imageMany, .int imageWires])), (a_image, .inl (cJ, 65536, .inr (.inl image)))] → va_S A s.heap H locs → lv_has ls 8 [(0, .ref a_p0), (1, .int x1), (2, .int x2)] → W p l e (headSpec (Cond.code y_Mo_addUp prog_6_method_28_code 8 none :: T0) rm_Mo_addUp).room s m ([.ref a_p0, .int p1] : List Value).toArray below meth c H locs 0 0 Q (F0 m 2 ls [])), ∀ (n : Nat), ∀ (x1 : Int32) (x2 : Int32) (x3 : Int32) (image : Nat → Int64) (H : Heap) (locs : List Loc) (ls : Array Slot), b_Mo_addUp_12 F k_2 modes n x1 x2 x3 image = some u → va_P (dC, dI) cls [(a_p0, .inr (4, [.int thrown, .int modes, .int products, .ref z_upsOf, .ref z_downsOf, .ref z_numberOf, .int wayKind, .ref z_rowOf, .ref z_writes, .ref z_reads, .int isImageKnown, .int madeState, .int madeSign, .ref z_matrix, .ref z_other, .int newMany, .ref z_newUps, .ref z_newDowns, .ref z_newNumber, .ref z_found, .ref a_image, .ref z_imagePlace, .int imagePower, .int imageMany, .int imageWires])), (a_image, .inl (cJ, 65536, .inr (.inl image)))] H → va_D A [(a_p0, .inr (4, [.int thrown, .int modes, .int products, .ref z_upsOf, .ref z_downsOf, .ref z_numberOf, .int wayKind, .ref z_rowOf, .ref z_writes, .ref z_reads, .int isImageKnown, .int madeState, .int madeSign, .ref z_matrix, .ref z_other, .int newMany, .ref z_newUps, .ref z_newDowns, .ref z_newNumber, .ref z_found, .ref a_image, .ref z_imagePlace, .int imagePower, .int imageMany, .int imageWires])), (a_image, .inl (cJ, 65536, .inr (.inl image)))] → va_S A s.heap H locs → lv_has ls 8 [(0, .ref a_p0), (1, .int x1), (2, .int x2), (3, .int x3)] → W p l e (headSpec (Cond.code y_Mo_addUp prog_6_method_28_code 8 none :: T0) rm_Mo_addUp).room s m ([.ref a_p0, .int p1] : List Value).toArray below meth c H locs 0 0 Q (F0 m 12 ls []) := by
    intro k_2 hk_2
    intro n
    induction n with
    | zero =>
      intro x1 x2 x3 image H locs ls hf hP hD hS hl
      exact no_fuel hf
    | succ n ih =>
      intro x1 x2 x3 image H locs ls hf hP hD hS hl
      rw [b_Mo_addUp_12] at hf
      refine lv_iload_n hx hb d_Mo_addUp_12 rfl (lv_at hl 3 rfl) ?_
      refine lv_aload_n hx hb d_Mo_addUp_13 rfl (lv_at hl 0 rfl) ?_
      obtain ⟨u_3, h_u_3, hf⟩ := bd hf
      refine rd_i (rdV_run (As := []) (rest := [.int x3]) ⟨hx, hb, hml, hown, ht0⟩ (c_Mo_states l dC dI cI cJ a_p0 z_upsOf z_downsOf z_numberOf z_rowOf z_writes z_reads z_matrix z_other z_newUps z_newDowns z_newNumber z_found a_image z_imagePlace thrown modes products wayKind isImageKnown madeState madeSign newMany imagePower imageMany imageWires F u_3 h_u_3) (cwV 0 ht0 (gV m_442 m_444 (T0_pr (y := ⟨"FermionMapsModel", "states", "()I"⟩) (i := 4) rfl rfl) m_5 m_445) rfl rfl rfl (by decide +kernel) ⟨Nat.le_of_ble_eq_true rfl, Nat.le_of_ble_eq_true rfl⟩) hK hNW hP [0] rfl (ci := 4) (q0 := 0) rfl rfl rfl hl.1 rfl (Nat.le_of_ble_eq_true rfl) d_Mo_addUp_14 ⟨Nat.zero_le _, Nat.zero_le _⟩) ?_
      refine lv_icmp_ge (tgt := 85) hx hb d_Mo_addUp_17 (by decide) (fun c_4 => ?_) (fun c_4 => ?_)
      · replace hf := if_t c_4 hf
        refine lv_iconst (v := 2) hx hb d_Mo_addUp_85 (by decide) ?_
        refine lv_iload_n hx hb d_Mo_addUp_86 rfl (lv_at hl 2 rfl) ?_
        refine lv_imul hx hb d_Mo_addUp_87 ?_
        refine lv_topi (fun x2_5 e_x2_5 => ?_)
        replace hf := nm_eq e_x2_5 hf
        refine lv_istore_n (lv' := [(2, .int x2_5), (0, .ref a_p0), (1, .int x1), (3, .int x3)]) hx hb d_Mo_addUp_88 rfl hl (by decide) rfl (fun ls hl => ?_)
        refine lv_goto (tgt := 2) hx hb d_Mo_addUp_89 (by decide) ?_
        exact hk_2 x1 x2_5 image H locs ls hf hP hD hS (lv_sub hl [1, 2, 0] rfl)
      · replace hf := if_f c_4 hf
        refine lv_iload_n hx hb d_Mo_addUp_20 rfl (lv_at hl 3 rfl) ?_
        refine lv_iload_n hx hb d_Mo_addUp_21 rfl (lv_at hl 2 rfl) ?_
        refine lv_iand hx hb d_Mo_addUp_22 ?_
        refine lv_if_eq (tgt := 29) hx hb d_Mo_addUp_23 (by decide) (fun c_6 => ?_) (fun c_6 => ?_)
        · replace hf := if_t c_6 hf
          refine lv_aload_n hx hb d_Mo_addUp_29 rfl (lv_at hl 0 rfl) ?_
          refine va_get (D := (dC, dI)) (ci := 4) (v := .ref a_image) (C := "FermionMapsModel") (T := F_Mo) (N := 25) hx hb ht0 i_Mo hown hK hP 0 rfl rfl 20 (by decide) (ht0 _ m_477) (fun _ h9 => h9) rfl d_Mo_addUp_30 ?_
          refine lv_iload_n hx hb d_Mo_addUp_33 rfl (lv_at hl 1 rfl) ?_
          refine lv_iload_n hx hb d_Mo_addUp_34 rfl (lv_at hl 3 rfl) ?_
          refine lv_iadd hx hb d_Mo_addUp_35 ?_
          refine lv_topi (fun t_7 e_t_7 => ?_)
          replace hf := nm_eq e_t_7 hf
          obtain ⟨hi_8, hf⟩ := ckI_ok hf
          refine va_lald hx hb hK hP 1 1 rfl rfl hi_8 d_Mo_addUp_36 ?_
          refine lv_topl (fun x4_9 e_x4_9 => ?_)
          replace hf := nm_eq e_x4_9 hf
          refine lv_lstore (lv' := [(4, .long x4_9), (0, .ref a_p0), (1, .int x1), (2, .int x2), (3, .int x3)]) hx hb d_Mo_addUp_37 hl (by decide) rfl (fun ls hl => ?_)
          refine lv_aload_n hx hb d_Mo_addUp_39 rfl (lv_at hl 1 rfl) ?_
          refine va_get (D := (dC, dI)) (ci := 4) (v := .ref a_image) (C := "FermionMapsModel") (T := F_Mo) (N := 25) hx hb ht0 i_Mo hown hK hP 0 rfl rfl 20 (by decide) (ht0 _ m_477) (fun _ h9 => h9) rfl d_Mo_addUp_40 ?_
          refine lv_iload_n hx hb d_Mo_addUp_43 rfl (lv_at hl 2 rfl) ?_
          refine lv_iload_n hx hb d_Mo_addUp_44 rfl (lv_at hl 4 rfl) ?_
          refine lv_iadd hx hb d_Mo_addUp_45 ?_
          refine lv_iload_n hx hb d_Mo_addUp_46 rfl (lv_at hl 3 rfl) ?_
          refine lv_iadd hx hb d_Mo_addUp_47 ?_
          refine lv_topi (fun t_10 e_t_10 => ?_)
          replace hf := nm_eq e_t_10 hf
          obtain ⟨hi_11, hf⟩ := ckI_ok hf
          refine va_lald hx hb hK hP 1 1 rfl rfl hi_11 d_Mo_addUp_48 ?_
          refine lv_topl (fun x6_12 e_x6_12 => ?_)
          replace hf := nm_eq e_x6_12 hf
          refine lv_lstore (lv' := [(6, .long x6_12), (4, .long x4_9), (0, .ref a_p0), (1, .int x1), (2, .int x2), (3, .int x3)]) hx hb d_Mo_addUp_49 hl (by decide) rfl (fun ls hl => ?_)
          refine lv_aload_n hx hb d_Mo_addUp_51 rfl (lv_at hl 2 rfl) ?_
          refine va_get (D := (dC, dI)) (ci := 4) (v := .ref a_image) (C := "FermionMapsModel") (T := F_Mo) (N := 25) hx hb ht0 i_Mo hown hK hP 0 rfl rfl 20 (by decide) (ht0 _ m_477) (fun _ h9 => h9) rfl d_Mo_addUp_52 ?_
          refine lv_iload_n hx hb d_Mo_addUp_55 rfl (lv_at hl 3 rfl) ?_
          refine lv_iload_n hx hb d_Mo_addUp_56 rfl (lv_at hl 5 rfl) ?_
          refine lv_iadd hx hb d_Mo_addUp_57 ?_
          refine lv_lload hx hb d_Mo_addUp_58 (lv_at hl 1 rfl) ?_
          refine lv_lload hx hb d_Mo_addUp_60 (lv_at hl 0 rfl) ?_
          refine lv_ladd hx hb d_Mo_addUp_62 ?_
          refine lv_topl (fun t_13 e_t_13 => ?_)
          replace hf := nm_eq e_t_13 hf
          obtain ⟨hi_14, hf⟩ := ckI_ok hf
          refine va_last hx hb hK hP hD hS 1 1 rfl rfl hi_14 d_Mo_addUp_63 (fun H locs hP hD hS => ?_)
          have hP : va_P (dC, dI) cls [(a_p0, .inr (4, [.int thrown, .int modes, .int products, .ref z_upsOf, .ref z_downsOf, .ref z_numberOf, .int wayKind, .ref z_rowOf, .ref z_writes, .ref z_reads, .int isImageKnown, .int madeState, .int madeSign, .ref z_matrix, .ref z_other, .int newMany, .ref z_newUps, .ref z_newDowns, .ref z_newNumber, .ref z_found, .ref a_image, .ref z_imagePlace, .int imagePower, .int imageMany, .int imageWires])), (a_image, .inl (cJ, 65536, .inr (.inl (vp_updL image (x1 + x3).toNatClampNeg t_13))))] H := hP
          have hD : va_D A [(a_p0, .inr (4, [.int thrown, .int modes, .int products, .ref z_upsOf, .ref z_downsOf, .ref z_numberOf, .int wayKind, .ref z_rowOf, .ref z_writes, .ref z_reads, .int isImageKnown, .int madeState, .int madeSign, .ref z_matrix, .ref z_other, .int newMany, .ref z_newUps, .ref z_newDowns, .ref z_newNumber, .ref z_found, .ref a_image, .ref z_imagePlace, .int imagePower, .int imageMany, .int imageWires])), (a_image, .inl (cJ, 65536, .inr (.inl (vp_updL image (x1 + x3).toNatClampNeg t_13))))] := hD
          refine lv_aload_n hx hb d_Mo_addUp_64 rfl (lv_at hl 2 rfl) ?_
          refine va_get (D := (dC, dI)) (ci := 4) (v := .ref a_image) (C := "FermionMapsModel") (T := F_Mo) (N := 25) hx hb ht0 i_Mo hown hK hP 0 rfl rfl 20 (by decide) (ht0 _ m_477) (fun _ h9 => h9) rfl d_Mo_addUp_65 ?_
          refine lv_iload_n hx hb d_Mo_addUp_68 rfl (lv_at hl 3 rfl) ?_
          refine lv_iload_n hx hb d_Mo_addUp_69 rfl (lv_at hl 5 rfl) ?_
          refine lv_iadd hx hb d_Mo_addUp_70 ?_
          refine lv_iload_n hx hb d_Mo_addUp_71 rfl (lv_at hl 4 rfl) ?_
          refine lv_iadd hx hb d_Mo_addUp_72 ?_
          refine lv_lload hx hb d_Mo_addUp_73 (lv_at hl 1 rfl) ?_
          refine lv_lload hx hb d_Mo_addUp_75 (lv_at hl 0 rfl) ?_
          refine lv_lsub hx hb d_Mo_addUp_77 ?_
          refine lv_topl (fun t_15 e_t_15 => ?_)
          replace hf := nm_eq e_t_15 hf
          obtain ⟨hi_16, hf⟩ := ckI_ok hf
          refine va_last hx hb hK hP hD hS 1 1 rfl rfl hi_16 d_Mo_addUp_78 (fun H locs hP hD hS => ?_)
          have hP : va_P (dC, dI) cls [(a_p0, .inr (4, [.int thrown, .int modes, .int products, .ref z_upsOf, .ref z_downsOf, .ref z_numberOf, .int wayKind, .ref z_rowOf, .ref z_writes, .ref z_reads, .int isImageKnown, .int madeState, .int madeSign, .ref z_matrix, .ref z_other, .int newMany, .ref z_newUps, .ref z_newDowns, .ref z_newNumber, .ref z_found, .ref a_image, .ref z_imagePlace, .int imagePower, .int imageMany, .int imageWires])), (a_image, .inl (cJ, 65536, .inr (.inl (vp_updL (vp_updL image (x1 + x3).toNatClampNeg t_13) ((x1 + x3) + x2).toNatClampNeg t_15))))] H := hP
          have hD : va_D A [(a_p0, .inr (4, [.int thrown, .int modes, .int products, .ref z_upsOf, .ref z_downsOf, .ref z_numberOf, .int wayKind, .ref z_rowOf, .ref z_writes, .ref z_reads, .int isImageKnown, .int madeState, .int madeSign, .ref z_matrix, .ref z_other, .int newMany, .ref z_newUps, .ref z_newDowns, .ref z_newNumber, .ref z_found, .ref a_image, .ref z_imagePlace, .int imagePower, .int imageMany, .int imageWires])), (a_image, .inl (cJ, 65536, .inr (.inl (vp_updL (vp_updL image (x1 + x3).toNatClampNeg t_13) ((x1 + x3) + x2).toNatClampNeg t_15))))] := hD
          exact B_79 k_2 hk_2 (b_Mo_addUp_12 F k_2 modes n) ih x1 x2 x3 (vp_updL (vp_updL image (x1 + x3).toNatClampNeg t_13) ((x1 + x3) + x2).toNatClampNeg t_15) H locs ls hf hP hD hS (lv_sub hl [2, 3, 4, 5] rfl)
        · replace hf := if_f c_6 hf
          refine lv_goto (tgt := 79) hx hb d_Mo_addUp_26 (by decide) ?_
          exact B_79 k_2 hk_2 (b_Mo_addUp_12 F k_2 modes n) ih x1 x2 x3 image H locs ls hf hP hD hS (lv_sub hl [0, 1, 2, 3] rfl)
  have B_2 : ∀ (n : Nat), ∀ (x1 : Int32) (x2 : Int32) (image : Nat → Int64) (H : Heap) (locs : List Loc) (ls : Array Slot), b_Mo_addUp_2 F modes n x1 x2 image = some u → va_P (dC, dI) cls [(a_p0, .inr (4, [.int thrown, .int modes, .int products, .ref z_upsOf, .ref z_downsOf, .ref z_numberOf, .int wayKind, .ref z_rowOf, .ref z_writes, .ref z_reads, .int isImageKnown, .int madeState, .int madeSign, .ref z_matrix, .ref z_other, .int newMany, .ref z_newUps, .ref z_newDowns, .ref z_newNumber, .ref z_found, .ref a_image, .ref z_imagePlace, .int imagePower, .int imageMany, .int imageWires])), (a_image, .inl (cJ, 65536, .inr (.inl image)))] H → va_D A [(a_p0, .inr (4, [.int thrown, .int modes, .int products, .ref z_upsOf, .ref z_downsOf, .ref z_numberOf, .int wayKind, .ref z_rowOf, .ref z_writes, .ref z_reads, .int isImageKnown, .int madeState, .int madeSign, .ref z_matrix, .ref z_other, .int newMany, .ref z_newUps, .ref z_newDowns, .ref z_newNumber, .ref z_found, .ref a_image, .ref z_imagePlace, .int imagePower, .int imageMany, .int imageWires])), (a_image, .inl (cJ, 65536, .inr (.inl image)))] → va_S A s.heap H locs → lv_has ls 8 [(0, .ref a_p0), (1, .int x1), (2, .int x2)] → W p l e (headSpec (Cond.code y_Mo_addUp prog_6_method_28_code 8 none :: T0) rm_Mo_addUp).room s m ([.ref a_p0, .int p1] : List Value).toArray below meth c H locs 0 0 Q (F0 m 2 ls []) := by
    intro n
    induction n with
    | zero =>
      intro x1 x2 image H locs ls hf hP hD hS hl
      exact no_fuel hf
    | succ n ih =>
      intro x1 x2 image H locs ls hf hP hD hS hl
      rw [b_Mo_addUp_2] at hf
      refine lv_iload_n hx hb d_Mo_addUp_2 rfl (lv_at hl 2 rfl) ?_
      refine lv_aload_n hx hb d_Mo_addUp_3 rfl (lv_at hl 0 rfl) ?_
      obtain ⟨u_1, h_u_1, hf⟩ := bd hf
      refine rd_i (rdV_run (As := []) (rest := [.int x2]) ⟨hx, hb, hml, hown, ht0⟩ (c_Mo_states l dC dI cI cJ a_p0 z_upsOf z_downsOf z_numberOf z_rowOf z_writes z_reads z_matrix z_other z_newUps z_newDowns z_newNumber z_found a_image z_imagePlace thrown modes products wayKind isImageKnown madeState madeSign newMany imagePower imageMany imageWires F u_1 h_u_1) (cwV 0 ht0 (gV m_442 m_444 (T0_pr (y := ⟨"FermionMapsModel", "states", "()I"⟩) (i := 4) rfl rfl) m_5 m_445) rfl rfl rfl (by decide +kernel) ⟨Nat.le_of_ble_eq_true rfl, Nat.le_of_ble_eq_true rfl⟩) hK hNW hP [0] rfl (ci := 4) (q0 := 0) rfl rfl rfl hl.1 rfl (Nat.le_of_ble_eq_true rfl) d_Mo_addUp_4 ⟨Nat.zero_le _, Nat.zero_le _⟩) ?_
      refine lv_icmp_ge (tgt := 92) hx hb d_Mo_addUp_7 (by decide) (fun c_2 => ?_) (fun c_2 => ?_)
      · replace hf := if_t c_2 hf
        have hu := Option.some.inj hf
        subst hu
        exact rw_v hQ rfl hP hD hK hS hx hb hr hlocks d_Mo_addUp_92
      · replace hf := if_f c_2 hf
        refine lv_iconst (v := 0) hx hb d_Mo_addUp_10 (by decide) ?_
        refine lv_istore_n (lv' := [(3, .int 0), (0, .ref a_p0), (1, .int x1), (2, .int x2)]) hx hb d_Mo_addUp_11 rfl hl (by decide) rfl (fun ls hl => ?_)
        exact B_12 (b_Mo_addUp_2 F modes n) ih F x1 x2 0 image H locs ls hf hP hD hS (lv_sub hl [1, 2, 3, 0] rfl)
  rw [f_Mo_addUp] at hf
  refine lv_iconst (v := 1) hx hb d_Mo_addUp_0 (by decide) ?_
  refine lv_istore_n (lv' := [(2, .int 1), (0, .ref a_p0), (1, .int p1)]) hx hb d_Mo_addUp_1 rfl hl (by decide) rfl (fun ls hl => ?_)
  exact B_2 F p1 1 image s.heap [] ls hf hP hD hS (lv_sub hl [1, 2, 0] rfl)

/-! FermionMapsModel.listImage()V -/
def b_Mo_listImage_106 (F : Nat) (k_12 : Int32 → Int32 → Int32 → (Nat → Int32) → Option (Int32 × Int32 × (Nat → Int32))) (k_22 : Int32 → Int32 → Int32 → Int32 → (Nat → Int32) → Option (Int32 × Int32 × (Nat → Int32))) (modes : Int32) (image : Nat → Int64) (x1 : Int32) (x2 : Int32) (imageMany : Int32) (imageWires : Int32) (imagePlace : Nat → Int32) : Option (Int32 × Int32 × (Nat → Int32)) :=
  nm (x2 + 1 : Int32) fun x2_14 =>
  k_22 x1 x2_14 imageMany imageWires imagePlace
def b_Mo_listImage_103 (F : Nat) (k_12 : Int32 → Int32 → Int32 → (Nat → Int32) → Option (Int32 × Int32 × (Nat → Int32))) (k_22 : Int32 → Int32 → Int32 → Int32 → (Nat → Int32) → Option (Int32 × Int32 × (Nat → Int32))) (modes : Int32) (image : Nat → Int64) (x1 : Int32) (x2 : Int32) (s1 : Int32) (imageMany : Int32) (imageWires : Int32) (imagePlace : Nat → Int32) : Option (Int32 × Int32 × (Nat → Int32)) :=
  b_Mo_listImage_106 F k_12 k_22 modes image x1 x2 imageMany s1 imagePlace
def b_Mo_listImage_22 (F : Nat) (k_12 : Int32 → Int32 → Int32 → (Nat → Int32) → Option (Int32 × Int32 × (Nat → Int32))) (modes : Int32) (image : Nat → Int64) : Nat → Int32 → Int32 → Int32 → Int32 → (Nat → Int32) → Option (Int32 × Int32 × (Nat → Int32))
  | 0, _, _, _, _, _ => none
  | n + 1, x1, x2, imageMany, imageWires, imagePlace =>
    (f_Mo_states F modes).bind fun u_3 =>
    if u_3 ≤ x2 then
      nm (x1 + 1 : Int32) fun x1_5 =>
      k_12 x1_5 imageMany imageWires imagePlace
    else
      nm (((256 * x1) + x2) : Int32) fun t_6 =>
      ckI t_6 65536 <|
      if (lg_cmp (image t_6.toNatClampNeg) 0) = 0 then
        b_Mo_listImage_106 F k_12 (b_Mo_listImage_22 F k_12 modes image n) modes image x1 x2 imageMany imageWires imagePlace
      else
        nm (((256 * x1) + x2) : Int32) fun t_9 =>
        ckI imageMany 65536 <|
        nm ((imageMany + 1) : Int32) fun imageMany_11 =>
        (f_Mo_ones F (x1 ||| x2)).bind fun u_12 =>
        if u_12 ≤ imageWires then
          b_Mo_listImage_103 F k_12 (b_Mo_listImage_22 F k_12 modes image n) modes image x1 x2 imageWires imageMany_11 imageWires (upd imagePlace imageMany.toNatClampNeg t_9)
        else
          (f_Mo_ones F (x1 ||| x2)).bind fun u_15 =>
          b_Mo_listImage_103 F k_12 (b_Mo_listImage_22 F k_12 modes image n) modes image x1 x2 u_15 imageMany_11 imageWires (upd imagePlace imageMany.toNatClampNeg t_9)
def b_Mo_listImage_12 (F : Nat) (modes : Int32) (image : Nat → Int64) : Nat → Int32 → Int32 → Int32 → (Nat → Int32) → Option (Int32 × Int32 × (Nat → Int32))
  | 0, _, _, _, _ => none
  | n + 1, x1, imageMany, imageWires, imagePlace =>
    (f_Mo_states F modes).bind fun u_1 =>
    if u_1 ≤ x1 then
      some (imageMany, imageWires, imagePlace)
    else
      b_Mo_listImage_22 F (b_Mo_listImage_12 F modes image n) modes image F x1 0 imageMany imageWires imagePlace
def f_Mo_listImage (F : Nat) (modes : Int32) (imageMany : Int32) (imageWires : Int32) (image : Nat → Int64) (imagePlace : Nat → Int32) : Option (Int32 × Int32 × (Nat → Int32)) :=
  b_Mo_listImage_12 F modes image F 0 0 0 imagePlace
abbrev rm_Mo_listImage : Room := { frames := 1, cells := 0, slots := 0, locals := 22 }
set_option maxHeartbeats 4000000 in
set_option maxRecDepth 100000 in
theorem c_Mo_listImage (l : Launch) (dC : Nat → ClassId) (dI : Nat → Nat → Nat) (cI cJ : ClassId) (a_p0 a_image a_imagePlace z_upsOf z_downsOf z_numberOf z_rowOf z_writes z_reads z_matrix z_other z_newUps z_newDowns z_newNumber z_found : Nat) (sz : Nat) (thrown : Int32) (modes : Int32) (products : Int32) (wayKind : Int32) (isImageKnown : Int32) (madeState : Int32) (madeSign : Int32) (newMany : Int32) (imagePower : Int32) (imageMany : Int32) (imageWires : Int32) (image : Nat → Int64) (imagePlace : Nat → Int32) (F : Nat) (u : Int32 × Int32 × (Nat → Int32)) (hf : f_Mo_listImage F modes imageMany imageWires image imagePlace = some u) : Met l y_Mo_listImage (Cond.code y_Mo_listImage prog_6_method_30_code 3 none :: T0) rm_Mo_listImage (va_Pc [.ref a_p0] (Ww (dC, dI) [(a_p0, .inr (4, [.int thrown, .int modes, .int products, .ref z_upsOf, .ref z_downsOf, .ref z_numberOf, .int wayKind, .ref z_rowOf, .ref z_writes, .ref z_reads, .int isImageKnown, .int madeState, .int madeSign, .ref z_matrix, .ref z_other, .int newMany, .ref z_newUps, .ref z_newDowns, .ref z_newNumber, .ref z_found, .ref a_image, .ref a_imagePlace, .int imagePower, .int imageMany, .int imageWires])), (a_image, .inl (cJ, 65536, .inr (.inl image))), (a_imagePlace, .inl (cI, 65536, .inl imagePlace))] [(cI, .int), (cJ, .long)] sz)) (va_Qv (fun _ : Unit => True) (Bw (dC, dI) [(cI, .int), (cJ, .long)] (va_A [(a_p0, .inr (4, [.int thrown, .int modes, .int products, .ref z_upsOf, .ref z_downsOf, .ref z_numberOf, .int wayKind, .ref z_rowOf, .ref z_writes, .ref z_reads, .int isImageKnown, .int madeState, .int madeSign, .ref z_matrix, .ref z_other, .int newMany, .ref z_newUps, .ref z_newDowns, .ref z_newNumber, .ref z_found, .ref a_image, .ref a_imagePlace, .int imagePower, .int imageMany, .int imageWires])), (a_image, .inl (cJ, 65536, .inr (.inl image))), (a_imagePlace, .inl (cI, 65536, .inl imagePlace))] sz) (fun w1 => w1 = [(a_p0, .inr (4, [.int thrown, .int modes, .int products, .ref z_upsOf, .ref z_downsOf, .ref z_numberOf, .int wayKind, .ref z_rowOf, .ref z_writes, .ref z_reads, .int isImageKnown, .int madeState, .int madeSign, .ref z_matrix, .ref z_other, .int newMany, .ref z_newUps, .ref z_newDowns, .ref z_newNumber, .ref z_found, .ref a_image, .ref a_imagePlace, .int imagePower, .int u.1, .int u.2.1])), (a_image, .inl (cJ, 65536, .inr (.inl image))), (a_imagePlace, .inl (cI, 65536, .inl u.2.2))])) (va_A [(a_p0, .inr (4, [.int thrown, .int modes, .int products, .ref z_upsOf, .ref z_downsOf, .ref z_numberOf, .int wayKind, .ref z_rowOf, .ref z_writes, .ref z_reads, .int isImageKnown, .int madeState, .int madeSign, .ref z_matrix, .ref z_other, .int newMany, .ref z_newUps, .ref z_newDowns, .ref z_newNumber, .ref z_found, .ref a_image, .ref a_imagePlace, .int imagePower, .int imageMany, .int imageWires])), (a_image, .inl (cJ, 65536, .inr (.inl image))), (a_imagePlace, .inl (cI, 65536, .inl imagePlace))] sz)) 0 0 (va_A [(a_p0, .inr (4, [.int thrown, .int modes, .int products, .ref z_upsOf, .ref z_downsOf, .ref z_numberOf, .int wayKind, .ref z_rowOf, .ref z_writes, .ref z_reads, .int isImageKnown, .int madeState, .int madeSign, .ref z_matrix, .ref z_other, .int newMany, .ref z_newUps, .ref z_newDowns, .ref z_newNumber, .ref z_found, .ref a_image, .ref a_imagePlace, .int imagePower, .int imageMany, .int imageWires])), (a_image, .inl (cJ, 65536, .inr (.inl image))), (a_imagePlace, .inl (cI, 65536, .inl imagePlace))] sz) := by
  refine Met.ofW (cc := prog_6_method_30_code) (maxL := 3) (ret := none) (by decide) rfl ?_
  intro p e s m args below meth c s₁ B hml hv
  obtain ⟨rfl, hsz, hP, hK, hD0, hNW⟩ := hv
  have hx := B.exec
  have hb := B.bytes
  have hr := B.returns
  have hts := atoms_spec (ws := Cond.code y_Mo_listImage prog_6_method_30_code 3 none :: T0) B.pre
  have ht0 : ∀ w ∈ T0, w.before ([.ref a_p0] : List Value).toArray s = true := fun w h => hts w (List.mem_cons_of_mem _ h)
  have hown : s.vm.findClass "FermionMapsModel" = some m.cls := findClass_of_methodNamed B.named
  have hlocks := B.notSynchronized
  subst hsz
  have hD := hD0.self (sz := s.heap.size)
  generalize hAe : va_A [(a_p0, .inr (4, [.int thrown, .int modes, .int products, .ref z_upsOf, .ref z_downsOf, .ref z_numberOf, .int wayKind, .ref z_rowOf, .ref z_writes, .ref z_reads, .int isImageKnown, .int madeState, .int madeSign, .ref z_matrix, .ref z_other, .int newMany, .ref z_newUps, .ref z_newDowns, .ref z_newNumber, .ref z_found, .ref a_image, .ref a_imagePlace, .int imagePower, .int imageMany, .int imageWires])), (a_image, .inl (cJ, 65536, .inr (.inl image))), (a_imagePlace, .inl (cI, 65536, .inl imagePlace))] s.heap.size = A at hD ⊢
  have hA : ∀ q : Nat, s.heap.size ≤ q → A q := fun q h => by rw [← hAe]; exact Or.inr h
  have hS : va_S A s.heap s.heap [] := va_S.rf
  have hl := lv_entry ([.ref a_p0]) (n := 3) (Nat.le_of_ble_eq_true rfl)
  rw [lg_entry_eq]
  generalize (lg_sl ([.ref a_p0]) ++ List.replicate (3 - (lg_sl ([.ref a_p0])).length) Slot.unset).toArray = ls at hl ⊢
  have hl : lv_has ls 3 [(0, .ref a_p0)] := hl
  refine W.nameQ (fun Q hQ => ?_)
  have B_106 : ∀ (k_12 : Int32 → Int32 → Int32 → (Nat → Int32) → Option (Int32 × Int32 × (Nat → Int32))) (hk_12 : ∀ (x1 : Int32) (imageMany : Int32) (imageWires : Int32) (imagePlace : Nat → Int32) (H : Heap) (locs : List Loc) (ls : Array Slot), k_12 x1 imageMany imageWires imagePlace = some u → va_P (dC, dI) cls [(a_p0, .inr (4, [.int thrown, .int modes, .int products, .ref z_upsOf, .ref z_downsOf, .ref z_numberOf, .int wayKind, .ref z_rowOf, .ref z_writes, .ref z_reads, .int isImageKnown, .int madeState, .int madeSign, .ref z_matrix, .ref z_other, .int newMany, .ref z_newUps, .ref z_newDowns, .ref z_newNumber, .ref z_found, .ref a_image, .ref a_imagePlace, .int imagePower, .int imageMany, .int imageWires])), (a_image, .inl (cJ, 65536, .inr (.inl image))), (a_imagePlace, .inl (cI, 65536, .inl imagePlace))] H → va_D A [(a_p0, .inr (4, [.int thrown, .int modes, .int products, .ref z_upsOf, .ref z_downsOf, .ref z_numberOf, .int wayKind, .ref z_rowOf, .ref z_writes, .ref z_reads, .int isImageKnown, .int madeState, .int madeSign, .ref z_matrix, .ref z_other, .int newMany, .ref z_newUps, .ref z_newDowns, .ref z_newNumber, .ref z_found, .ref a_image, .ref a_imagePlace, .int imagePower, .int imageMany, .int imageWires])), (a_image, .inl (cJ, 65536, .inr (.inl image))), (a_imagePlace, .inl (cI, 65536, .inl imagePlace))] → va_S A s.heap H locs → lv_has ls 3 [(0, .ref a_p0), (1, .int x1)] → W p l e (headSpec (Cond.code y_Mo_listImage prog_6_method_30_code 3 none :: T0) rm_Mo_listImage).room s m ([.ref a_p0] : List Value).toArray below meth c H locs 0 0 Q (F0 m 12 ls [])) (k_22 : Int32 → Int32 → Int32 → Int32 → (Nat → Int32) → Option (Int32 × Int32 × (Nat → Int32))) (hk_22 : ∀ (x1 : Int32) (x2 : Int32) (imageMany : Int32) (imageWires : Int32) (imagePlace : Nat → Int32) (H : Heap) (locs : List Loc) (ls : Array Slot), k_22 x1 x2 imageMany imageWires imagePlace = some u → va_P (dC, dI) cls [(a_p0, .inr (4, [.int thrown, .int modes, .int products, .ref z_upsOf, .ref z_downsOf, .ref z_numberOf, .int wayKind, .ref z_rowOf, .ref z_writes, .ref z_reads, .int isImageKnown, .int madeState, .int madeSign, .ref z_matrix, .ref z_other, .int newMany, .ref z_newUps, .ref z_newDowns, .ref z_newNumber, .ref z_found, .ref a_image, .ref a_imagePlace, .int imagePower, .int imageMany, .int imageWires])), (a_image, .inl (cJ, 65536, .inr (.inl image))), (a_imagePlace, .inl (cI, 65536, .inl imagePlace))] H → va_D A [(a_p0, .inr (4, [.int thrown, .int modes, .int products, .ref z_upsOf, .ref z_downsOf, .ref z_numberOf, .int wayKind, .ref z_rowOf, .ref z_writes, .ref z_reads, .int isImageKnown, .int madeState, .int madeSign, .ref z_matrix, .ref z_other, .int newMany, .ref z_newUps, .ref z_newDowns, .ref z_newNumber, .ref z_found, .ref a_image, .ref a_imagePlace, .int imagePower, .int imageMany, .int imageWires])), (a_image, .inl (cJ, 65536, .inr (.inl image))), (a_imagePlace, .inl (cI, 65536, .inl imagePlace))] → va_S A s.heap H locs → lv_has ls 3 [(0, .ref a_p0), (1, .int x1), (2, .int x2)] → W p l e (headSpec (Cond.code y_Mo_listImage prog_6_method_30_code 3 none :: T0) rm_Mo_listImage).room s m ([.ref a_p0] : List Value).toArray below meth c H locs 0 0 Q (F0 m 22 ls [])), ∀ (x1 : Int32) (x2 : Int32) (imageMany : Int32) (imageWires : Int32) (imagePlace : Nat → Int32) (H : Heap) (locs : List Loc) (ls : Array Slot), b_Mo_listImage_106 F k_12 k_22 modes image x1 x2 imageMany imageWires imagePlace = some u → va_P (dC, dI) cls [(a_p0, .inr (4, [.int thrown, .int modes, .int products, .ref z_upsOf, .ref z_downsOf, .ref z_numberOf, .int wayKind, .ref z_rowOf, .ref z_writes, .ref z_reads, .int isImageKnown, .int madeState, .int madeSign, .ref z_matrix, .ref z_other, .int newMany, .ref z_newUps, .ref z_newDowns, .ref z_newNumber, .ref z_found, .ref a_image, .ref a_imagePlace, .int imagePower, .int imageMany, .int imageWires])), (a_image, .inl (cJ, 65536, .inr (.inl image))), (a_imagePlace, .inl (cI, 65536, .inl imagePlace))] H → va_D A [(a_p0, .inr (4, [.int thrown, .int modes, .int products, .ref z_upsOf, .ref z_downsOf, .ref z_numberOf, .int wayKind, .ref z_rowOf, .ref z_writes, .ref z_reads, .int isImageKnown, .int madeState, .int madeSign, .ref z_matrix, .ref z_other, .int newMany, .ref z_newUps, .ref z_newDowns, .ref z_newNumber, .ref z_found, .ref a_image, .ref a_imagePlace, .int imagePower, .int imageMany, .int imageWires])), (a_image, .inl (cJ, 65536, .inr (.inl image))), (a_imagePlace, .inl (cI, 65536, .inl imagePlace))] → va_S A s.heap H locs → lv_has ls 3 [(0, .ref a_p0), (1, .int x1), (2, .int x2)] → W p l e (headSpec (Cond.code y_Mo_listImage prog_6_method_30_code 3 none :: T0) rm_Mo_listImage).room s m ([.ref a_p0] : List Value).toArray below meth c H locs 0 0 Q (F0 m 106 ls []) := by
    intro k_12 hk_12 k_22 hk_22
    intro x1 x2 imageMany imageWires imagePlace H locs ls hf hP hD hS hl
    rw [b_Mo_listImage_106] at hf
    obtain ⟨x2_14, e_x2_14⟩ : ∃ y : Int32, y = x2 + 1 := ⟨_, rfl⟩
    replace hf := nm_eq e_x2_14 hf
    refine lv_iinc (v := x2_14) (lv' := [(2, .int x2_14), (0, .ref a_p0), (1, .int x1)]) hx hb d_Mo_listImage_106 hl (k := 2) rfl (by rw [e_x2_14]; rfl) (by decide) rfl (fun ls hl => ?_)
    refine lv_goto (tgt := 22) hx hb d_Mo_listImage_109 (by decide) ?_
    exact hk_22 x1 x2_14 imageMany imageWires imagePlace H locs ls hf hP hD hS (lv_sub hl [1, 2, 0] rfl)
  have B_103 : ∀ (k_12 : Int32 → Int32 → Int32 → (Nat → Int32) → Option (Int32 × Int32 × (Nat → Int32))) (hk_12 : ∀ (x1 : Int32) (imageMany : Int32) (imageWires : Int32) (imagePlace : Nat → Int32) (H : Heap) (locs : List Loc) (ls : Array Slot), k_12 x1 imageMany imageWires imagePlace = some u → va_P (dC, dI) cls [(a_p0, .inr (4, [.int thrown, .int modes, .int products, .ref z_upsOf, .ref z_downsOf, .ref z_numberOf, .int wayKind, .ref z_rowOf, .ref z_writes, .ref z_reads, .int isImageKnown, .int madeState, .int madeSign, .ref z_matrix, .ref z_other, .int newMany, .ref z_newUps, .ref z_newDowns, .ref z_newNumber, .ref z_found, .ref a_image, .ref a_imagePlace, .int imagePower, .int imageMany, .int imageWires])), (a_image, .inl (cJ, 65536, .inr (.inl image))), (a_imagePlace, .inl (cI, 65536, .inl imagePlace))] H → va_D A [(a_p0, .inr (4, [.int thrown, .int modes, .int products, .ref z_upsOf, .ref z_downsOf, .ref z_numberOf, .int wayKind, .ref z_rowOf, .ref z_writes, .ref z_reads, .int isImageKnown, .int madeState, .int madeSign, .ref z_matrix, .ref z_other, .int newMany, .ref z_newUps, .ref z_newDowns, .ref z_newNumber, .ref z_found, .ref a_image, .ref a_imagePlace, .int imagePower, .int imageMany, .int imageWires])), (a_image, .inl (cJ, 65536, .inr (.inl image))), (a_imagePlace, .inl (cI, 65536, .inl imagePlace))] → va_S A s.heap H locs → lv_has ls 3 [(0, .ref a_p0), (1, .int x1)] → W p l e (headSpec (Cond.code y_Mo_listImage prog_6_method_30_code 3 none :: T0) rm_Mo_listImage).room s m ([.ref a_p0] : List Value).toArray below meth c H locs 0 0 Q (F0 m 12 ls [])) (k_22 : Int32 → Int32 → Int32 → Int32 → (Nat → Int32) → Option (Int32 × Int32 × (Nat → Int32))) (hk_22 : ∀ (x1 : Int32) (x2 : Int32) (imageMany : Int32) (imageWires : Int32) (imagePlace : Nat → Int32) (H : Heap) (locs : List Loc) (ls : Array Slot), k_22 x1 x2 imageMany imageWires imagePlace = some u → va_P (dC, dI) cls [(a_p0, .inr (4, [.int thrown, .int modes, .int products, .ref z_upsOf, .ref z_downsOf, .ref z_numberOf, .int wayKind, .ref z_rowOf, .ref z_writes, .ref z_reads, .int isImageKnown, .int madeState, .int madeSign, .ref z_matrix, .ref z_other, .int newMany, .ref z_newUps, .ref z_newDowns, .ref z_newNumber, .ref z_found, .ref a_image, .ref a_imagePlace, .int imagePower, .int imageMany, .int imageWires])), (a_image, .inl (cJ, 65536, .inr (.inl image))), (a_imagePlace, .inl (cI, 65536, .inl imagePlace))] H → va_D A [(a_p0, .inr (4, [.int thrown, .int modes, .int products, .ref z_upsOf, .ref z_downsOf, .ref z_numberOf, .int wayKind, .ref z_rowOf, .ref z_writes, .ref z_reads, .int isImageKnown, .int madeState, .int madeSign, .ref z_matrix, .ref z_other, .int newMany, .ref z_newUps, .ref z_newDowns, .ref z_newNumber, .ref z_found, .ref a_image, .ref a_imagePlace, .int imagePower, .int imageMany, .int imageWires])), (a_image, .inl (cJ, 65536, .inr (.inl image))), (a_imagePlace, .inl (cI, 65536, .inl imagePlace))] → va_S A s.heap H locs → lv_has ls 3 [(0, .ref a_p0), (1, .int x1), (2, .int x2)] → W p l e (headSpec (Cond.code y_Mo_listImage prog_6_method_30_code 3 none :: T0) rm_Mo_listImage).room s m ([.ref a_p0] : List Value).toArray below meth c H locs 0 0 Q (F0 m 22 ls [])), ∀ (x1 : Int32) (x2 : Int32) (s1 : Int32) (imageMany : Int32) (imageWires : Int32) (imagePlace : Nat → Int32) (H : Heap) (locs : List Loc) (ls : Array Slot), b_Mo_listImage_103 F k_12 k_22 modes image x1 x2 s1 imageMany imageWires imagePlace = some u → va_P (dC, dI) cls [(a_p0, .inr (4, [.int thrown, .int modes, .int products, .ref z_upsOf, .ref z_downsOf, .ref z_numberOf, .int wayKind, .ref z_rowOf, .ref z_writes, .ref z_reads, .int isImageKnown, .int madeState, .int madeSign, .ref z_matrix, .ref z_other, .int newMany, .ref z_newUps, .ref z_newDowns, .ref z_newNumber, .ref z_found, .ref a_image, .ref a_imagePlace, .int imagePower, .int imageMany, .int imageWires])), (a_image, .inl (cJ, 65536, .inr (.inl image))), (a_imagePlace, .inl (cI, 65536, .inl imagePlace))] H → va_D A [(a_p0, .inr (4, [.int thrown, .int modes, .int products, .ref z_upsOf, .ref z_downsOf, .ref z_numberOf, .int wayKind, .ref z_rowOf, .ref z_writes, .ref z_reads, .int isImageKnown, .int madeState, .int madeSign, .ref z_matrix, .ref z_other, .int newMany, .ref z_newUps, .ref z_newDowns, .ref z_newNumber, .ref z_found, .ref a_image, .ref a_imagePlace, .int imagePower, .int imageMany, .int imageWires])), (a_image, .inl (cJ, 65536, .inr (.inl image))), (a_imagePlace, .inl (cI, 65536, .inl imagePlace))] → va_S A s.heap H locs → lv_has ls 3 [(0, .ref a_p0), (1, .int x1), (2, .int x2)] → W p l e (headSpec (Cond.code y_Mo_listImage prog_6_method_30_code 3 none :: T0) rm_Mo_listImage).room s m ([.ref a_p0] : List Value).toArray below meth c H locs 0 0 Q (F0 m 103 ls [.int s1, .ref a_p0]) := by
    intro k_12 hk_12 k_22 hk_22
    intro x1 x2 s1 imageMany imageWires imagePlace H locs ls hf hP hD hS hl
    rw [b_Mo_listImage_103] at hf
    refine va_put (D := (dC, dI)) (ci := 4) (v := .int s1) (ty := .int) (C := "FermionMapsModel") (T := F_Mo) (N := 25) hx hb ht0 i_Mo t_Mo t_Mo_ok n_Mo hown hK hP hD hS 0 rfl rfl 24 (by decide) (ht0 _ m_481) (fun _ h9 => h9) rfl (by decide +kernel) rfl rfl (Nat.le_of_ble_eq_true rfl) d_Mo_listImage_103 (fun H locs hP hD hS => ?_)
    have hP : va_P (dC, dI) cls [(a_p0, .inr (4, [.int thrown, .int modes, .int products, .ref z_upsOf, .ref z_downsOf, .ref z_numberOf, .int wayKind, .ref z_rowOf, .ref z_writes, .ref z_reads, .int isImageKnown, .int madeState, .int madeSign, .ref z_matrix, .ref z_other, .int newMany, .ref z_newUps, .ref z_newDowns, .ref z_newNumber, .ref z_found, .ref a_image, .ref a_imagePlace, .int imagePower, .int imageMany, .int s1])), (a_image, .inl (cJ, 65536, .inr (.inl image))), (a_imagePlace, .inl (cI, 65536, .inl imagePlace))] H := hP
    have hD : va_D A [(a_p0, .inr (4, [.int thrown, .int modes, .int products, .ref z_upsOf, .ref z_downsOf, .ref z_numberOf, .int wayKind, .ref z_rowOf, .ref z_writes, .ref z_reads, .int isImageKnown, .int madeState, .int madeSign, .ref z_matrix, .ref z_other, .int newMany, .ref z_newUps, .ref z_newDowns, .ref z_newNumber, .ref z_found, .ref a_image, .ref a_imagePlace, .int imagePower, .int imageMany, .int s1])), (a_image, .inl (cJ, 65536, .inr (.inl image))), (a_imagePlace, .inl (cI, 65536, .inl imagePlace))] := hD
    exact B_106 k_12 hk_12 k_22 hk_22 x1 x2 imageMany s1 imagePlace H locs ls hf hP hD hS (lv_sub hl [0, 1, 2] rfl)
  have B_22 : ∀ (k_12 : Int32 → Int32 → Int32 → (Nat → Int32) → Option (Int32 × Int32 × (Nat → Int32))) (hk_12 : ∀ (x1 : Int32) (imageMany : Int32) (imageWires : Int32) (imagePlace : Nat → Int32) (H : Heap) (locs : List Loc) (ls : Array Slot), k_12 x1 imageMany imageWires imagePlace = some u → va_P (dC, dI) cls [(a_p0, .inr (4, [.int thrown, .int modes, .int products, .ref z_upsOf, .ref z_downsOf, .ref z_numberOf, .int wayKind, .ref z_rowOf, .ref z_writes, .ref z_reads, .int isImageKnown, .int madeState, .int madeSign, .ref z_matrix, .ref z_other, .int newMany, .ref z_newUps, .ref z_newDowns, .ref z_newNumber, .ref z_found, .ref a_image, .ref a_imagePlace, .int imagePower, .int imageMany, .int imageWires])), (a_image, .inl (cJ, 65536, .inr (.inl image))), (a_imagePlace, .inl (cI, 65536, .inl imagePlace))] H → va_D A [(a_p0, .inr (4, [.int thrown, .int modes, .int products, .ref z_upsOf, .ref z_downsOf, .ref z_numberOf, .int wayKind, .ref z_rowOf, .ref z_writes, .ref z_reads, .int isImageKnown, .int madeState, .int madeSign, .ref z_matrix, .ref z_other, .int newMany, .ref z_newUps, .ref z_newDowns, .ref z_newNumber, .ref z_found, .ref a_image, .ref a_imagePlace, .int imagePower, .int imageMany, .int imageWires])), (a_image, .inl (cJ, 65536, .inr (.inl image))), (a_imagePlace, .inl (cI, 65536, .inl imagePlace))] → va_S A s.heap H locs → lv_has ls 3 [(0, .ref a_p0), (1, .int x1)] → W p l e (headSpec (Cond.code y_Mo_listImage prog_6_method_30_code 3 none :: T0) rm_Mo_listImage).room s m ([.ref a_p0] : List Value).toArray below meth c H locs 0 0 Q (F0 m 12 ls [])), ∀ (n : Nat), ∀ (x1 : Int32) (x2 : Int32) (imageMany : Int32) (imageWires : Int32) (imagePlace : Nat → Int32) (H : Heap) (locs : List Loc) (ls : Array Slot), b_Mo_listImage_22 F k_12 modes image n x1 x2 imageMany imageWires imagePlace = some u → va_P (dC, dI) cls [(a_p0, .inr (4, [.int thrown, .int modes, .int products, .ref z_upsOf, .ref z_downsOf, .ref z_numberOf, .int wayKind, .ref z_rowOf, .ref z_writes, .ref z_reads, .int isImageKnown, .int madeState, .int madeSign, .ref z_matrix, .ref z_other, .int newMany, .ref z_newUps, .ref z_newDowns, .ref z_newNumber, .ref z_found, .ref a_image, .ref a_imagePlace, .int imagePower, .int imageMany, .int imageWires])), (a_image, .inl (cJ, 65536, .inr (.inl image))), (a_imagePlace, .inl (cI, 65536, .inl imagePlace))] H → va_D A [(a_p0, .inr (4, [.int thrown, .int modes, .int products, .ref z_upsOf, .ref z_downsOf, .ref z_numberOf, .int wayKind, .ref z_rowOf, .ref z_writes, .ref z_reads, .int isImageKnown, .int madeState, .int madeSign, .ref z_matrix, .ref z_other, .int newMany, .ref z_newUps, .ref z_newDowns, .ref z_newNumber, .ref z_found, .ref a_image, .ref a_imagePlace, .int imagePower, .int imageMany, .int imageWires])), (a_image, .inl (cJ, 65536, .inr (.inl image))), (a_imagePlace, .inl (cI, 65536, .inl imagePlace))] → va_S A s.heap H locs → lv_has ls 3 [(0, .ref a_p0), (1, .int x1), (2, .int x2)] → W p l e (headSpec (Cond.code y_Mo_listImage prog_6_method_30_code 3 none :: T0) rm_Mo_listImage).room s m ([.ref a_p0] : List Value).toArray below meth c H locs 0 0 Q (F0 m 22 ls []) := by
    intro k_12 hk_12
    intro n
    induction n with
    | zero =>
      intro x1 x2 imageMany imageWires imagePlace H locs ls hf hP hD hS hl
      exact no_fuel hf
    | succ n ih =>
      intro x1 x2 imageMany imageWires imagePlace H locs ls hf hP hD hS hl
      rw [b_Mo_listImage_22] at hf
      refine lv_iload_n hx hb d_Mo_listImage_22 rfl (lv_at hl 2 rfl) ?_
      refine lv_aload_n hx hb d_Mo_listImage_23 rfl (lv_at hl 0 rfl) ?_
      obtain ⟨u_3, h_u_3, hf⟩ := bd hf
      refine rd_i (rdV_run (As := []) (rest := [.int x2]) ⟨hx, hb, hml, hown, ht0⟩ (c_Mo_states l dC dI cI cJ a_p0 z_upsOf z_downsOf z_numberOf z_rowOf z_writes z_reads z_matrix z_other z_newUps z_newDowns z_newNumber z_found a_image a_imagePlace thrown modes products wayKind isImageKnown madeState madeSign newMany imagePower imageMany imageWires F u_3 h_u_3) (cwV 0 ht0 (gV m_442 m_444 (T0_pr (y := ⟨"FermionMapsModel", "states", "()I"⟩) (i := 4) rfl rfl) m_5 m_445) rfl rfl rfl (by decide +kernel) ⟨Nat.le_of_ble_eq_true rfl, Nat.le_of_ble_eq_true rfl⟩) hK hNW hP [0] rfl (ci := 4) (q0 := 0) rfl rfl rfl hl.1 rfl (Nat.le_of_ble_eq_true rfl) d_Mo_listImage_24 ⟨Nat.zero_le _, Nat.zero_le _⟩) ?_
      refine lv_icmp_ge (tgt := 112) hx hb d_Mo_listImage_27 (by decide) (fun c_4 => ?_) (fun c_4 => ?_)
      · replace hf := if_t c_4 hf
        obtain ⟨x1_5, e_x1_5⟩ : ∃ y : Int32, y = x1 + 1 := ⟨_, rfl⟩
        replace hf := nm_eq e_x1_5 hf
        refine lv_iinc (v := x1_5) (lv' := [(1, .int x1_5), (0, .ref a_p0), (2, .int x2)]) hx hb d_Mo_listImage_112 hl (k := 1) rfl (by rw [e_x1_5]; rfl) (by decide) rfl (fun ls hl => ?_)
        refine lv_goto (tgt := 12) hx hb d_Mo_listImage_115 (by decide) ?_
        exact hk_12 x1_5 imageMany imageWires imagePlace H locs ls hf hP hD hS (lv_sub hl [1, 0] rfl)
      · replace hf := if_f c_4 hf
        refine lv_aload_n hx hb d_Mo_listImage_30 rfl (lv_at hl 0 rfl) ?_
        refine va_get (D := (dC, dI)) (ci := 4) (v := .ref a_image) (C := "FermionMapsModel") (T := F_Mo) (N := 25) hx hb ht0 i_Mo hown hK hP 0 rfl rfl 20 (by decide) (ht0 _ m_477) (fun _ h9 => h9) rfl d_Mo_listImage_31 ?_
        refine lv_sipush (v := 256) hx hb d_Mo_listImage_34 (by decide) ?_
        refine lv_iload_n hx hb d_Mo_listImage_37 rfl (lv_at hl 1 rfl) ?_
        refine lv_imul hx hb d_Mo_listImage_38 ?_
        refine lv_iload_n hx hb d_Mo_listImage_39 rfl (lv_at hl 2 rfl) ?_
        refine lv_iadd hx hb d_Mo_listImage_40 ?_
        refine lv_topi (fun t_6 e_t_6 => ?_)
        replace hf := nm_eq e_t_6 hf
        obtain ⟨hi_7, hf⟩ := ckI_ok hf
        refine va_lald hx hb hK hP 1 1 rfl rfl hi_7 d_Mo_listImage_41 ?_
        refine lv_lconst (v := 0) hx hb d_Mo_listImage_42 (by decide) ?_
        refine W.lcmp hx hb d_Mo_listImage_43 ?_
        refine lv_if_ne (tgt := 50) hx hb d_Mo_listImage_44 (by decide) (fun c_8 => ?_) (fun c_8 => ?_)
        · replace hf := if_f c_8 hf
          refine lv_aload_n hx hb d_Mo_listImage_50 rfl (lv_at hl 0 rfl) ?_
          refine va_get (D := (dC, dI)) (ci := 4) (v := .ref a_imagePlace) (C := "FermionMapsModel") (T := F_Mo) (N := 25) hx hb ht0 i_Mo hown hK hP 0 rfl rfl 21 (by decide) (ht0 _ m_478) (fun _ h9 => h9) rfl d_Mo_listImage_51 ?_
          refine lv_aload_n hx hb d_Mo_listImage_54 rfl (lv_at hl 0 rfl) ?_
          refine va_get (D := (dC, dI)) (ci := 4) (v := .int imageMany) (C := "FermionMapsModel") (T := F_Mo) (N := 25) hx hb ht0 i_Mo hown hK hP 0 rfl rfl 23 (by decide) (ht0 _ m_480) (fun _ h9 => h9) rfl d_Mo_listImage_55 ?_
          refine lv_sipush (v := 256) hx hb d_Mo_listImage_58 (by decide) ?_
          refine lv_iload_n hx hb d_Mo_listImage_61 rfl (lv_at hl 1 rfl) ?_
          refine lv_imul hx hb d_Mo_listImage_62 ?_
          refine lv_iload_n hx hb d_Mo_listImage_63 rfl (lv_at hl 2 rfl) ?_
          refine lv_iadd hx hb d_Mo_listImage_64 ?_
          refine lv_topi (fun t_9 e_t_9 => ?_)
          replace hf := nm_eq e_t_9 hf
          obtain ⟨hi_10, hf⟩ := ckI_ok hf
          refine va_iast hx hb hK hP hD hS 2 0 rfl rfl hi_10 d_Mo_listImage_65 (fun H locs hP hD hS => ?_)
          have hP : va_P (dC, dI) cls [(a_p0, .inr (4, [.int thrown, .int modes, .int products, .ref z_upsOf, .ref z_downsOf, .ref z_numberOf, .int wayKind, .ref z_rowOf, .ref z_writes, .ref z_reads, .int isImageKnown, .int madeState, .int madeSign, .ref z_matrix, .ref z_other, .int newMany, .ref z_newUps, .ref z_newDowns, .ref z_newNumber, .ref z_found, .ref a_image, .ref a_imagePlace, .int imagePower, .int imageMany, .int imageWires])), (a_image, .inl (cJ, 65536, .inr (.inl image))), (a_imagePlace, .inl (cI, 65536, .inl (upd imagePlace imageMany.toNatClampNeg t_9)))] H := hP
          have hD : va_D A [(a_p0, .inr (4, [.int thrown, .int modes, .int products, .ref z_upsOf, .ref z_downsOf, .ref z_numberOf, .int wayKind, .ref z_rowOf, .ref z_writes, .ref z_reads, .int isImageKnown, .int madeState, .int madeSign, .ref z_matrix, .ref z_other, .int newMany, .ref z_newUps, .ref z_newDowns, .ref z_newNumber, .ref z_found, .ref a_image, .ref a_imagePlace, .int imagePower, .int imageMany, .int imageWires])), (a_image, .inl (cJ, 65536, .inr (.inl image))), (a_imagePlace, .inl (cI, 65536, .inl (upd imagePlace imageMany.toNatClampNeg t_9)))] := hD
          refine lv_aload_n hx hb d_Mo_listImage_66 rfl (lv_at hl 0 rfl) ?_
          refine lv_dup hx hb d_Mo_listImage_67 rfl ?_
          refine va_get (D := (dC, dI)) (ci := 4) (v := .int imageMany) (C := "FermionMapsModel") (T := F_Mo) (N := 25) hx hb ht0 i_Mo hown hK hP 0 rfl rfl 23 (by decide) (ht0 _ m_480) (fun _ h9 => h9) rfl d_Mo_listImage_68 ?_
          refine lv_iconst (v := 1) hx hb d_Mo_listImage_71 (by decide) ?_
          refine lv_iadd hx hb d_Mo_listImage_72 ?_
          refine lv_topi (fun imageMany_11 e_imageMany_11 => ?_)
          replace hf := nm_eq e_imageMany_11 hf
          refine va_put (D := (dC, dI)) (ci := 4) (v := .int imageMany_11) (ty := .int) (C := "FermionMapsModel") (T := F_Mo) (N := 25) hx hb ht0 i_Mo t_Mo t_Mo_ok n_Mo hown hK hP hD hS 0 rfl rfl 23 (by decide) (ht0 _ m_480) (fun _ h9 => h9) rfl (by decide +kernel) rfl rfl (Nat.le_of_ble_eq_true rfl) d_Mo_listImage_73 (fun H locs hP hD hS => ?_)
          have hP : va_P (dC, dI) cls [(a_p0, .inr (4, [.int thrown, .int modes, .int products, .ref z_upsOf, .ref z_downsOf, .ref z_numberOf, .int wayKind, .ref z_rowOf, .ref z_writes, .ref z_reads, .int isImageKnown, .int madeState, .int madeSign, .ref z_matrix, .ref z_other, .int newMany, .ref z_newUps, .ref z_newDowns, .ref z_newNumber, .ref z_found, .ref a_image, .ref a_imagePlace, .int imagePower, .int imageMany_11, .int imageWires])), (a_image, .inl (cJ, 65536, .inr (.inl image))), (a_imagePlace, .inl (cI, 65536, .inl (upd imagePlace imageMany.toNatClampNeg t_9)))] H := hP
          have hD : va_D A [(a_p0, .inr (4, [.int thrown, .int modes, .int products, .ref z_upsOf, .ref z_downsOf, .ref z_numberOf, .int wayKind, .ref z_rowOf, .ref z_writes, .ref z_reads, .int isImageKnown, .int madeState, .int madeSign, .ref z_matrix, .ref z_other, .int newMany, .ref z_newUps, .ref z_newDowns, .ref z_newNumber, .ref z_found, .ref a_image, .ref a_imagePlace, .int imagePower, .int imageMany_11, .int imageWires])), (a_image, .inl (cJ, 65536, .inr (.inl image))), (a_imagePlace, .inl (cI, 65536, .inl (upd imagePlace imageMany.toNatClampNeg t_9)))] := hD
          refine lv_aload_n hx hb d_Mo_listImage_76 rfl (lv_at hl 0 rfl) ?_
          refine lv_iload_n hx hb d_Mo_listImage_77 rfl (lv_at hl 1 rfl) ?_
          refine lv_iload_n hx hb d_Mo_listImage_78 rfl (lv_at hl 2 rfl) ?_
          refine lv_ior hx hb d_Mo_listImage_79 ?_
          obtain ⟨u_12, h_u_12, hf⟩ := bd hf
          refine rd_i (rdS_run (As := [.int (x1 ||| x2)]) (rest := [.ref a_p0]) ⟨hx, hb, hml, hown, ht0⟩ (c_Mo_ones l dC dI cI cJ (x1 ||| x2) F u_12 h_u_12) (va_cwS 1 ht0 (gS m_454 m_455 m_5 m_456) rfl rfl rfl (by decide +kernel) ⟨Nat.le_of_ble_eq_true rfl, Nat.le_of_ble_eq_true rfl⟩) hK hNW hP [] rfl  rfl hl.1 rfl (Nat.le_of_ble_eq_true rfl) d_Mo_listImage_80 ⟨Nat.zero_le _, Nat.zero_le _⟩) ?_
          refine lv_aload_n hx hb d_Mo_listImage_83 rfl (lv_at hl 0 rfl) ?_
          refine va_get (D := (dC, dI)) (ci := 4) (v := .int imageWires) (C := "FermionMapsModel") (T := F_Mo) (N := 25) hx hb ht0 i_Mo hown hK hP 0 rfl rfl 24 (by decide) (ht0 _ m_481) (fun _ h9 => h9) rfl d_Mo_listImage_84 ?_
          refine lv_icmp_le (tgt := 99) hx hb d_Mo_listImage_87 (by decide) (fun c_13 => ?_) (fun c_13 => ?_)
          · replace hf := if_t c_13 hf
            refine lv_aload_n hx hb d_Mo_listImage_99 rfl (lv_at hl 0 rfl) ?_
            refine va_get (D := (dC, dI)) (ci := 4) (v := .int imageWires) (C := "FermionMapsModel") (T := F_Mo) (N := 25) hx hb ht0 i_Mo hown hK hP 0 rfl rfl 24 (by decide) (ht0 _ m_481) (fun _ h9 => h9) rfl d_Mo_listImage_100 ?_
            exact B_103 k_12 hk_12 (b_Mo_listImage_22 F k_12 modes image n) ih x1 x2 imageWires imageMany_11 imageWires (upd imagePlace imageMany.toNatClampNeg t_9) H locs ls hf hP hD hS (lv_sub hl [0, 1, 2] rfl)
          · replace hf := if_f c_13 hf
            refine lv_iload_n hx hb d_Mo_listImage_90 rfl (lv_at hl 1 rfl) ?_
            refine lv_iload_n hx hb d_Mo_listImage_91 rfl (lv_at hl 2 rfl) ?_
            refine lv_ior hx hb d_Mo_listImage_92 ?_
            obtain ⟨u_15, h_u_15, hf⟩ := bd hf
            refine rd_i (rdS_run (As := [.int (x1 ||| x2)]) (rest := [.ref a_p0]) ⟨hx, hb, hml, hown, ht0⟩ (c_Mo_ones l dC dI cI cJ (x1 ||| x2) F u_15 h_u_15) (va_cwS 1 ht0 (gS m_454 m_455 m_5 m_456) rfl rfl rfl (by decide +kernel) ⟨Nat.le_of_ble_eq_true rfl, Nat.le_of_ble_eq_true rfl⟩) hK hNW hP [] rfl  rfl hl.1 rfl (Nat.le_of_ble_eq_true rfl) d_Mo_listImage_93 ⟨Nat.zero_le _, Nat.zero_le _⟩) ?_
            refine lv_goto (tgt := 103) hx hb d_Mo_listImage_96 (by decide) ?_
            exact B_103 k_12 hk_12 (b_Mo_listImage_22 F k_12 modes image n) ih x1 x2 u_15 imageMany_11 imageWires (upd imagePlace imageMany.toNatClampNeg t_9) H locs ls hf hP hD hS (lv_sub hl [0, 1, 2] rfl)
        · replace hf := if_t c_8 hf
          refine lv_goto (tgt := 106) hx hb d_Mo_listImage_47 (by decide) ?_
          exact B_106 k_12 hk_12 (b_Mo_listImage_22 F k_12 modes image n) ih x1 x2 imageMany imageWires imagePlace H locs ls hf hP hD hS (lv_sub hl [0, 1, 2] rfl)
  have B_12 : ∀ (n : Nat), ∀ (x1 : Int32) (imageMany : Int32) (imageWires : Int32) (imagePlace : Nat → Int32) (H : Heap) (locs : List Loc) (ls : Array Slot), b_Mo_listImage_12 F modes image n x1 imageMany imageWires imagePlace = some u → va_P (dC, dI) cls [(a_p0, .inr (4, [.int thrown, .int modes, .int products, .ref z_upsOf, .ref z_downsOf, .ref z_numberOf, .int wayKind, .ref z_rowOf, .ref z_writes, .ref z_reads, .int isImageKnown, .int madeState, .int madeSign, .ref z_matrix, .ref z_other, .int newMany, .ref z_newUps, .ref z_newDowns, .ref z_newNumber, .ref z_found, .ref a_image, .ref a_imagePlace, .int imagePower, .int imageMany, .int imageWires])), (a_image, .inl (cJ, 65536, .inr (.inl image))), (a_imagePlace, .inl (cI, 65536, .inl imagePlace))] H → va_D A [(a_p0, .inr (4, [.int thrown, .int modes, .int products, .ref z_upsOf, .ref z_downsOf, .ref z_numberOf, .int wayKind, .ref z_rowOf, .ref z_writes, .ref z_reads, .int isImageKnown, .int madeState, .int madeSign, .ref z_matrix, .ref z_other, .int newMany, .ref z_newUps, .ref z_newDowns, .ref z_newNumber, .ref z_found, .ref a_image, .ref a_imagePlace, .int imagePower, .int imageMany, .int imageWires])), (a_image, .inl (cJ, 65536, .inr (.inl image))), (a_imagePlace, .inl (cI, 65536, .inl imagePlace))] → va_S A s.heap H locs → lv_has ls 3 [(0, .ref a_p0), (1, .int x1)] → W p l e (headSpec (Cond.code y_Mo_listImage prog_6_method_30_code 3 none :: T0) rm_Mo_listImage).room s m ([.ref a_p0] : List Value).toArray below meth c H locs 0 0 Q (F0 m 12 ls []) := by
    intro n
    induction n with
    | zero =>
      intro x1 imageMany imageWires imagePlace H locs ls hf hP hD hS hl
      exact no_fuel hf
    | succ n ih =>
      intro x1 imageMany imageWires imagePlace H locs ls hf hP hD hS hl
      rw [b_Mo_listImage_12] at hf
      refine lv_iload_n hx hb d_Mo_listImage_12 rfl (lv_at hl 1 rfl) ?_
      refine lv_aload_n hx hb d_Mo_listImage_13 rfl (lv_at hl 0 rfl) ?_
      obtain ⟨u_1, h_u_1, hf⟩ := bd hf
      refine rd_i (rdV_run (As := []) (rest := [.int x1]) ⟨hx, hb, hml, hown, ht0⟩ (c_Mo_states l dC dI cI cJ a_p0 z_upsOf z_downsOf z_numberOf z_rowOf z_writes z_reads z_matrix z_other z_newUps z_newDowns z_newNumber z_found a_image a_imagePlace thrown modes products wayKind isImageKnown madeState madeSign newMany imagePower imageMany imageWires F u_1 h_u_1) (cwV 0 ht0 (gV m_442 m_444 (T0_pr (y := ⟨"FermionMapsModel", "states", "()I"⟩) (i := 4) rfl rfl) m_5 m_445) rfl rfl rfl (by decide +kernel) ⟨Nat.le_of_ble_eq_true rfl, Nat.le_of_ble_eq_true rfl⟩) hK hNW hP [0] rfl (ci := 4) (q0 := 0) rfl rfl rfl hl.1 rfl (Nat.le_of_ble_eq_true rfl) d_Mo_listImage_14 ⟨Nat.zero_le _, Nat.zero_le _⟩) ?_
      refine lv_icmp_ge (tgt := 118) hx hb d_Mo_listImage_17 (by decide) (fun c_2 => ?_) (fun c_2 => ?_)
      · replace hf := if_t c_2 hf
        have hu := Option.some.inj hf
        subst hu
        exact rw_v hQ rfl hP hD hK hS hx hb hr hlocks d_Mo_listImage_118
      · replace hf := if_f c_2 hf
        refine lv_iconst (v := 0) hx hb d_Mo_listImage_20 (by decide) ?_
        refine lv_istore_n (lv' := [(2, .int 0), (0, .ref a_p0), (1, .int x1)]) hx hb d_Mo_listImage_21 rfl hl (by decide) rfl (fun ls hl => ?_)
        exact B_22 (b_Mo_listImage_12 F modes image n) ih F x1 0 imageMany imageWires imagePlace H locs ls hf hP hD hS (lv_sub hl [1, 2, 0] rfl)
  rw [f_Mo_listImage] at hf
  refine lv_aload_n hx hb d_Mo_listImage_0 rfl (lv_at hl 0 rfl) ?_
  refine lv_iconst (v := 0) hx hb d_Mo_listImage_1 (by decide) ?_
  refine va_put (D := (dC, dI)) (ci := 4) (v := .int 0) (ty := .int) (C := "FermionMapsModel") (T := F_Mo) (N := 25) hx hb ht0 i_Mo t_Mo t_Mo_ok n_Mo hown hK hP hD hS 0 rfl rfl 23 (by decide) (ht0 _ m_480) (fun _ h9 => h9) rfl (by decide +kernel) rfl rfl (Nat.le_of_ble_eq_true rfl) d_Mo_listImage_2 (fun H locs hP hD hS => ?_)
  have hP : va_P (dC, dI) cls [(a_p0, .inr (4, [.int thrown, .int modes, .int products, .ref z_upsOf, .ref z_downsOf, .ref z_numberOf, .int wayKind, .ref z_rowOf, .ref z_writes, .ref z_reads, .int isImageKnown, .int madeState, .int madeSign, .ref z_matrix, .ref z_other, .int newMany, .ref z_newUps, .ref z_newDowns, .ref z_newNumber, .ref z_found, .ref a_image, .ref a_imagePlace, .int imagePower, .int 0, .int imageWires])), (a_image, .inl (cJ, 65536, .inr (.inl image))), (a_imagePlace, .inl (cI, 65536, .inl imagePlace))] H := hP
  have hD : va_D A [(a_p0, .inr (4, [.int thrown, .int modes, .int products, .ref z_upsOf, .ref z_downsOf, .ref z_numberOf, .int wayKind, .ref z_rowOf, .ref z_writes, .ref z_reads, .int isImageKnown, .int madeState, .int madeSign, .ref z_matrix, .ref z_other, .int newMany, .ref z_newUps, .ref z_newDowns, .ref z_newNumber, .ref z_found, .ref a_image, .ref a_imagePlace, .int imagePower, .int 0, .int imageWires])), (a_image, .inl (cJ, 65536, .inr (.inl image))), (a_imagePlace, .inl (cI, 65536, .inl imagePlace))] := hD
  refine lv_aload_n hx hb d_Mo_listImage_5 rfl (lv_at hl 0 rfl) ?_
  refine lv_iconst (v := 0) hx hb d_Mo_listImage_6 (by decide) ?_
  refine va_put (D := (dC, dI)) (ci := 4) (v := .int 0) (ty := .int) (C := "FermionMapsModel") (T := F_Mo) (N := 25) hx hb ht0 i_Mo t_Mo t_Mo_ok n_Mo hown hK hP hD hS 0 rfl rfl 24 (by decide) (ht0 _ m_481) (fun _ h9 => h9) rfl (by decide +kernel) rfl rfl (Nat.le_of_ble_eq_true rfl) d_Mo_listImage_7 (fun H locs hP hD hS => ?_)
  have hP : va_P (dC, dI) cls [(a_p0, .inr (4, [.int thrown, .int modes, .int products, .ref z_upsOf, .ref z_downsOf, .ref z_numberOf, .int wayKind, .ref z_rowOf, .ref z_writes, .ref z_reads, .int isImageKnown, .int madeState, .int madeSign, .ref z_matrix, .ref z_other, .int newMany, .ref z_newUps, .ref z_newDowns, .ref z_newNumber, .ref z_found, .ref a_image, .ref a_imagePlace, .int imagePower, .int 0, .int 0])), (a_image, .inl (cJ, 65536, .inr (.inl image))), (a_imagePlace, .inl (cI, 65536, .inl imagePlace))] H := hP
  have hD : va_D A [(a_p0, .inr (4, [.int thrown, .int modes, .int products, .ref z_upsOf, .ref z_downsOf, .ref z_numberOf, .int wayKind, .ref z_rowOf, .ref z_writes, .ref z_reads, .int isImageKnown, .int madeState, .int madeSign, .ref z_matrix, .ref z_other, .int newMany, .ref z_newUps, .ref z_newDowns, .ref z_newNumber, .ref z_found, .ref a_image, .ref a_imagePlace, .int imagePower, .int 0, .int 0])), (a_image, .inl (cJ, 65536, .inr (.inl image))), (a_imagePlace, .inl (cI, 65536, .inl imagePlace))] := hD
  refine lv_iconst (v := 0) hx hb d_Mo_listImage_10 (by decide) ?_
  refine lv_istore_n (lv' := [(1, .int 0), (0, .ref a_p0)]) hx hb d_Mo_listImage_11 rfl hl (by decide) rfl (fun ls hl => ?_)
  exact B_12 F 0 0 0 imagePlace H locs ls hf hP hD hS (lv_sub hl [1, 0] rfl)

/-! FermionMapsModel.isAllEven()Z -/
def b_Mo_isAllEven_2 (F : Nat) (imageMany : Int32) (image : Nat → Int64) (imagePlace : Nat → Int32) : Nat → Int32 → Option (Int32)
  | 0, _ => none
  | n + 1, x1 =>
    if imageMany ≤ x1 then
      some (1)
    else
      ckI x1 65536 <|
      nm ((imagePlace x1.toNatClampNeg) : Int32) fun t_3 =>
      ckI t_3 65536 <|
      ckZl 2 <|
      if (lg_cmp ((image t_3.toNatClampNeg) - (image t_3.toNatClampNeg) / 2 * 2) 0) = 0 then
        nm (x1 + 1 : Int32) fun x1_7 =>
        b_Mo_isAllEven_2 F imageMany image imagePlace n x1_7
      else
        some (0)
def f_Mo_isAllEven (F : Nat) (imageMany : Int32) (image : Nat → Int64) (imagePlace : Nat → Int32) : Option (Int32) :=
  b_Mo_isAllEven_2 F imageMany image imagePlace F 0
abbrev rm_Mo_isAllEven : Room := { frames := 0, cells := 0, slots := 0, locals := 0 }
set_option maxHeartbeats 4000000 in
set_option maxRecDepth 100000 in
theorem c_Mo_isAllEven (l : Launch) (dC : Nat → ClassId) (dI : Nat → Nat → Nat) (cI cJ : ClassId) (a_p0 a_image a_imagePlace z_upsOf z_downsOf z_numberOf z_rowOf z_writes z_reads z_matrix z_other z_newUps z_newDowns z_newNumber z_found : Nat) (thrown : Int32) (modes : Int32) (products : Int32) (wayKind : Int32) (isImageKnown : Int32) (madeState : Int32) (madeSign : Int32) (newMany : Int32) (imagePower : Int32) (imageMany : Int32) (imageWires : Int32) (image : Nat → Int64) (imagePlace : Nat → Int32) (F : Nat) (u : Int32) (hf : f_Mo_isAllEven F imageMany image imagePlace = some u) : Met l y_Mo_isAllEven (Cond.code y_Mo_isAllEven prog_6_method_29_code 2 (some .boolean) :: T0) rm_Mo_isAllEven (va_Pc [.ref a_p0] (Wr (dC, dI) [(a_p0, .inr (4, [.int thrown, .int modes, .int products, .ref z_upsOf, .ref z_downsOf, .ref z_numberOf, .int wayKind, .ref z_rowOf, .ref z_writes, .ref z_reads, .int isImageKnown, .int madeState, .int madeSign, .ref z_matrix, .ref z_other, .int newMany, .ref z_newUps, .ref z_newDowns, .ref z_newNumber, .ref z_found, .ref a_image, .ref a_imagePlace, .int imagePower, .int imageMany, .int imageWires])), (a_image, .inl (cJ, 65536, .inr (.inl image))), (a_imagePlace, .inl (cI, 65536, .inl imagePlace))] [(cI, .int), (cJ, .long)])) (vp_Si (fun r => r = u)) 0 0 (fun _ => False) := by
  refine Met.ofW (cc := prog_6_method_29_code) (maxL := 2) (ret := (some .boolean)) (by decide) rfl ?_
  intro p e s m args below meth c s₁ B hml hv
  obtain ⟨rfl, hP, hK, hNW⟩ := hv
  have hx := B.exec
  have hb := B.bytes
  have hr := B.returns
  have hts := atoms_spec (ws := Cond.code y_Mo_isAllEven prog_6_method_29_code 2 (some .boolean) :: T0) B.pre
  have ht0 : ∀ w ∈ T0, w.before ([.ref a_p0] : List Value).toArray s = true := fun w h => hts w (List.mem_cons_of_mem _ h)
  have hown : s.vm.findClass "FermionMapsModel" = some m.cls := findClass_of_methodNamed B.named
  have hlocks := B.notSynchronized
  have hl := lv_entry ([.ref a_p0]) (n := 2) (Nat.le_of_ble_eq_true rfl)
  rw [lg_entry_eq]
  generalize (lg_sl ([.ref a_p0]) ++ List.replicate (2 - (lg_sl ([.ref a_p0])).length) Slot.unset).toArray = ls at hl ⊢
  have hl : lv_has ls 2 [(0, .ref a_p0)] := hl
  refine W.nameQ (fun Q hQ => ?_)
  have B_2 : ∀ (n : Nat), ∀ (x1 : Int32) (ls : Array Slot), b_Mo_isAllEven_2 F imageMany image imagePlace n x1 = some u → lv_has ls 2 [(0, .ref a_p0), (1, .int x1)] → W p l e (headSpec (Cond.code y_Mo_isAllEven prog_6_method_29_code 2 (some .boolean) :: T0) rm_Mo_isAllEven).room s m ([.ref a_p0] : List Value).toArray below meth c s.heap [] 0 0 Q (F0 m 2 ls []) := by
    intro n
    induction n with
    | zero =>
      intro x1 ls hf hl
      exact no_fuel hf
    | succ n ih =>
      intro x1 ls hf hl
      rw [b_Mo_isAllEven_2] at hf
      refine lv_iload_n hx hb d_Mo_isAllEven_2 rfl (lv_at hl 1 rfl) ?_
      refine lv_aload_n hx hb d_Mo_isAllEven_3 rfl (lv_at hl 0 rfl) ?_
      refine va_get (D := (dC, dI)) (ci := 4) (v := .int imageMany) (C := "FermionMapsModel") (T := F_Mo) (N := 25) hx hb ht0 i_Mo hown hK hP 0 rfl rfl 23 (by decide) (ht0 _ m_480) (fun _ h9 => h9) rfl d_Mo_isAllEven_4 ?_
      refine lv_icmp_ge (tgt := 38) hx hb d_Mo_isAllEven_7 (by decide) (fun c_1 => ?_) (fun c_1 => ?_)
      · replace hf := if_t c_1 hf
        refine lv_iconst (v := 1) hx hb d_Mo_isAllEven_38 (by decide) ?_
        have hu := Option.some.inj hf
        subst hu
        exact rt_z hQ rfl rfl hx hb hr hlocks d_Mo_isAllEven_39
      · replace hf := if_f c_1 hf
        refine lv_aload_n hx hb d_Mo_isAllEven_10 rfl (lv_at hl 0 rfl) ?_
        refine va_get (D := (dC, dI)) (ci := 4) (v := .ref a_image) (C := "FermionMapsModel") (T := F_Mo) (N := 25) hx hb ht0 i_Mo hown hK hP 0 rfl rfl 20 (by decide) (ht0 _ m_477) (fun _ h9 => h9) rfl d_Mo_isAllEven_11 ?_
        refine lv_aload_n hx hb d_Mo_isAllEven_14 rfl (lv_at hl 0 rfl) ?_
        refine va_get (D := (dC, dI)) (ci := 4) (v := .ref a_imagePlace) (C := "FermionMapsModel") (T := F_Mo) (N := 25) hx hb ht0 i_Mo hown hK hP 0 rfl rfl 21 (by decide) (ht0 _ m_478) (fun _ h9 => h9) rfl d_Mo_isAllEven_15 ?_
        refine lv_iload_n hx hb d_Mo_isAllEven_18 rfl (lv_at hl 1 rfl) ?_
        obtain ⟨hi_2, hf⟩ := ckI_ok hf
        refine va_iald hx hb hK hP 2 0 rfl rfl hi_2 d_Mo_isAllEven_19 ?_
        refine lv_topi (fun t_3 e_t_3 => ?_)
        replace hf := nm_eq e_t_3 hf
        obtain ⟨hi_4, hf⟩ := ckI_ok hf
        refine va_lald hx hb hK hP 1 1 rfl rfl hi_4 d_Mo_isAllEven_20 ?_
        refine lv_ldc2 hx hb hown (ht0 _ m_635) d_Mo_isAllEven_21 ?_
        obtain ⟨hz_5, hf⟩ := ckZl_ok hf
        refine lv_lrem hx hb d_Mo_isAllEven_24 hz_5 ?_
        refine lv_lconst (v := 0) hx hb d_Mo_isAllEven_25 (by decide) ?_
        refine W.lcmp hx hb d_Mo_isAllEven_26 ?_
        refine lv_if_eq (tgt := 32) hx hb d_Mo_isAllEven_27 (by decide) (fun c_6 => ?_) (fun c_6 => ?_)
        · replace hf := if_t c_6 hf
          obtain ⟨x1_7, e_x1_7⟩ : ∃ y : Int32, y = x1 + 1 := ⟨_, rfl⟩
          replace hf := nm_eq e_x1_7 hf
          refine lv_iinc (v := x1_7) (lv' := [(1, .int x1_7), (0, .ref a_p0)]) hx hb d_Mo_isAllEven_32 hl (k := 1) rfl (by rw [e_x1_7]; rfl) (by decide) rfl (fun ls hl => ?_)
          refine lv_goto (tgt := 2) hx hb d_Mo_isAllEven_35 (by decide) ?_
          exact ih x1_7 ls hf (lv_sub hl [1, 0] rfl)
        · replace hf := if_f c_6 hf
          refine lv_iconst (v := 0) hx hb d_Mo_isAllEven_30 (by decide) ?_
          have hu := Option.some.inj hf
          subst hu
          exact rt_z hQ rfl rfl hx hb hr hlocks d_Mo_isAllEven_31
  rw [f_Mo_isAllEven] at hf
  refine lv_iconst (v := 0) hx hb d_Mo_isAllEven_0 (by decide) ?_
  refine lv_istore_n (lv' := [(1, .int 0), (0, .ref a_p0)]) hx hb d_Mo_isAllEven_1 rfl hl (by decide) rfl (fun ls hl => ?_)
  exact B_2 F 0 ls hf (lv_sub hl [1, 0] rfl)

/-! FermionMapsModel.findImage()V -/
def b_Mo_findImage_122 (F : Nat) (k_106 : Int32 → Int32 → Int32 → Int32 → Int32 → Int32 → (Nat → Int64) → (Nat → Int64) → (Nat → Int32) → Option (Int32 × Int32 × Int32 × Int32 × Int32 × Int32 × (Nat → Int64) × (Nat → Int64) × (Nat → Int32))) (modes : Int32) (products : Int32) (upsOf : Nat → Int32) (downsOf : Nat → Int32) (numberOf : Nat → Int64) (reads : Nat → Int32) : Nat → Int32 → Int32 → Int32 → Int32 → Int32 → Int32 → Int32 → (Nat → Int64) → (Nat → Int64) → (Nat → Int32) → Option (Int32 × Int32 × Int32 × Int32 × Int32 × Int32 × (Nat → Int64) × (Nat → Int64) × (Nat → Int32))
  | 0, _, _, _, _, _, _, _, _, _, _ => none
  | n + 1, x1, isImageKnown, madeState, madeSign, imagePower, imageMany, imageWires, matrix, image, imagePlace =>
    if imageMany ≤ x1 then
      nm ((imagePower - 1) : Int32) fun imagePower_10 =>
      k_106 isImageKnown madeState madeSign imagePower_10 imageMany imageWires matrix image imagePlace
    else
      ckI x1 65536 <|
      ckI x1 65536 <|
      nm ((imagePlace x1.toNatClampNeg) : Int32) fun t_13 =>
      ckI t_13 65536 <|
      ckZl 2 <|
      nm (((image t_13.toNatClampNeg) / 2) : Int64) fun t_16 =>
      ckI (imagePlace x1.toNatClampNeg) 65536 <|
      nm (x1 + 1 : Int32) fun x1_18 =>
      b_Mo_findImage_122 F k_106 modes products upsOf downsOf numberOf reads n x1_18 isImageKnown madeState madeSign imagePower imageMany imageWires matrix (vp_updL image (imagePlace x1.toNatClampNeg).toNatClampNeg t_16) imagePlace
def b_Mo_findImage_106 (F : Nat) (modes : Int32) (products : Int32) (upsOf : Nat → Int32) (downsOf : Nat → Int32) (numberOf : Nat → Int64) (reads : Nat → Int32) : Nat → Int32 → Int32 → Int32 → Int32 → Int32 → Int32 → (Nat → Int64) → (Nat → Int64) → (Nat → Int32) → Option (Int32 × Int32 × Int32 × Int32 × Int32 × Int32 × (Nat → Int64) × (Nat → Int64) × (Nat → Int32))
  | 0, _, _, _, _, _, _, _, _, _ => none
  | n + 1, isImageKnown, madeState, madeSign, imagePower, imageMany, imageWires, matrix, image, imagePlace =>
    if imagePower ≤ 0 then
      some (isImageKnown, madeState, madeSign, imagePower, imageMany, imageWires, matrix, image, imagePlace)
    else
      (f_Mo_isAllEven F imageMany image imagePlace).bind fun u_7 =>
      if u_7 = 0 then
        some (isImageKnown, madeState, madeSign, imagePower, imageMany, imageWires, matrix, image, imagePlace)
      else
        b_Mo_findImage_122 F (b_Mo_findImage_106 F modes products upsOf downsOf numberOf reads n) modes products upsOf downsOf numberOf reads F 0 isImageKnown madeState madeSign imagePower imageMany imageWires matrix image imagePlace
def b_Mo_findImage_29 (F : Nat) (k_19 : Int32 → Int32 → Int32 → Int32 → Int32 → Int32 → Int32 → (Nat → Int64) → (Nat → Int64) → (Nat → Int32) → Option (Int32 × Int32 × Int32 × Int32 × Int32 × Int32 × (Nat → Int64) × (Nat → Int64) × (Nat → Int32))) (modes : Int32) (products : Int32) (upsOf : Nat → Int32) (downsOf : Nat → Int32) (numberOf : Nat → Int64) (reads : Nat → Int32) : Nat → Int32 → Int32 → Int32 → Int32 → Int32 → Int32 → Int32 → Int32 → (Nat → Int64) → (Nat → Int64) → (Nat → Int32) → Option (Int32 × Int32 × Int32 × Int32 × Int32 × Int32 × (Nat → Int64) × (Nat → Int64) × (Nat → Int32))
  | 0, _, _, _, _, _, _, _, _, _, _, _ => none
  | n + 1, x1, x2, isImageKnown, madeState, madeSign, imagePower, imageMany, imageWires, matrix, image, imagePlace =>
    (f_Mo_states F modes).bind fun u_19 =>
    if u_19 ≤ x2 then
      (f_Mo_addUp F modes image (256 * x1)).bind fun u_21 =>
      nm (x1 + 1 : Int32) fun x1_22 =>
      k_19 x1_22 isImageKnown madeState madeSign imagePower imageMany imageWires matrix u_21 imagePlace
    else
      nm ((x2 ^^^ x1) : Int32) fun t_23 =>
      ckI t_23 256 <|
      ckI x2 256 <|
      nm (((256 * (reads t_23.toNatClampNeg)) + (reads x2.toNatClampNeg)) : Int32) fun t_26 =>
      ckI t_26 65536 <|
      nm ((matrix t_26.toNatClampNeg) : Int64) fun t_28 =>
      ckI ((256 * x1) + x2) 65536 <|
      nm (x2 + 1 : Int32) fun x2_30 =>
      b_Mo_findImage_29 F k_19 modes products upsOf downsOf numberOf reads n x1 x2_30 isImageKnown madeState madeSign imagePower imageMany imageWires matrix (vp_updL image ((256 * x1) + x2).toNatClampNeg t_28) imagePlace
def b_Mo_findImage_19 (F : Nat) (modes : Int32) (products : Int32) (upsOf : Nat → Int32) (downsOf : Nat → Int32) (numberOf : Nat → Int64) (reads : Nat → Int32) : Nat → Int32 → Int32 → Int32 → Int32 → Int32 → Int32 → Int32 → (Nat → Int64) → (Nat → Int64) → (Nat → Int32) → Option (Int32 × Int32 × Int32 × Int32 × Int32 × Int32 × (Nat → Int64) × (Nat → Int64) × (Nat → Int32))
  | 0, _, _, _, _, _, _, _, _, _, _ => none
  | n + 1, x1, isImageKnown, madeState, madeSign, imagePower, imageMany, imageWires, matrix, image, imagePlace =>
    (f_Mo_states F modes).bind fun u_3 =>
    if u_3 ≤ x1 then
      (f_Mo_listImage F modes imageMany imageWires image imagePlace).bind fun u_5 =>
      b_Mo_findImage_106 F modes products upsOf downsOf numberOf reads F isImageKnown madeState madeSign modes u_5.1 u_5.2.1 matrix image u_5.2.2
    else
      b_Mo_findImage_29 F (b_Mo_findImage_19 F modes products upsOf downsOf numberOf reads n) modes products upsOf downsOf numberOf reads F x1 0 isImageKnown madeState madeSign imagePower imageMany imageWires matrix image imagePlace
def f_Mo_findImage (F : Nat) (modes : Int32) (products : Int32) (isImageKnown : Int32) (madeState : Int32) (madeSign : Int32) (imagePower : Int32) (imageMany : Int32) (imageWires : Int32) (upsOf : Nat → Int32) (downsOf : Nat → Int32) (numberOf : Nat → Int64) (reads : Nat → Int32) (matrix : Nat → Int64) (image : Nat → Int64) (imagePlace : Nat → Int32) : Option (Int32 × Int32 × Int32 × Int32 × Int32 × Int32 × (Nat → Int64) × (Nat → Int64) × (Nat → Int32)) :=
  if isImageKnown = 0 then
    (f_Mo_fillMatrix F modes products madeState madeSign upsOf downsOf numberOf matrix).bind fun u_2 =>
    b_Mo_findImage_19 F modes products upsOf downsOf numberOf reads F 0 1 u_2.1 u_2.2.1 imagePower imageMany imageWires u_2.2.2 image imagePlace
  else
    some (isImageKnown, madeState, madeSign, imagePower, imageMany, imageWires, matrix, image, imagePlace)
abbrev rm_Mo_findImage : Room := { frames := 4, cells := 0, slots := 0, locals := 91 }
set_option maxHeartbeats 4000000 in
set_option maxRecDepth 100000 in
theorem c_Mo_findImage (l : Launch) (dC : Nat → ClassId) (dI : Nat → Nat → Nat) (cI cJ : ClassId) (a_p0 a_upsOf a_downsOf a_numberOf a_reads a_matrix a_image a_imagePlace z_rowOf z_writes z_other z_newUps z_newDowns z_newNumber z_found : Nat) (sz : Nat) (thrown : Int32) (modes : Int32) (products : Int32) (wayKind : Int32) (isImageKnown : Int32) (madeState : Int32) (madeSign : Int32) (newMany : Int32) (imagePower : Int32) (imageMany : Int32) (imageWires : Int32) (upsOf : Nat → Int32) (downsOf : Nat → Int32) (numberOf : Nat → Int64) (reads : Nat → Int32) (matrix : Nat → Int64) (image : Nat → Int64) (imagePlace : Nat → Int32) (F : Nat) (u : Int32 × Int32 × Int32 × Int32 × Int32 × Int32 × (Nat → Int64) × (Nat → Int64) × (Nat → Int32)) (hf : f_Mo_findImage F modes products isImageKnown madeState madeSign imagePower imageMany imageWires upsOf downsOf numberOf reads matrix image imagePlace = some u) : Met l y_Mo_findImage (Cond.code y_Mo_findImage prog_6_method_31_code 3 none :: T0) rm_Mo_findImage (va_Pc [.ref a_p0] (Ww (dC, dI) [(a_p0, .inr (4, [.int thrown, .int modes, .int products, .ref a_upsOf, .ref a_downsOf, .ref a_numberOf, .int wayKind, .ref z_rowOf, .ref z_writes, .ref a_reads, .int isImageKnown, .int madeState, .int madeSign, .ref a_matrix, .ref z_other, .int newMany, .ref z_newUps, .ref z_newDowns, .ref z_newNumber, .ref z_found, .ref a_image, .ref a_imagePlace, .int imagePower, .int imageMany, .int imageWires])), (a_upsOf, .inl (cI, 60, .inl upsOf)), (a_downsOf, .inl (cI, 60, .inl downsOf)), (a_numberOf, .inl (cJ, 60, .inr (.inl numberOf))), (a_reads, .inl (cI, 256, .inl reads)), (a_matrix, .inl (cJ, 65536, .inr (.inl matrix))), (a_image, .inl (cJ, 65536, .inr (.inl image))), (a_imagePlace, .inl (cI, 65536, .inl imagePlace))] [(cI, .int), (cJ, .long)] sz)) (va_Qv (fun _ : Unit => True) (Bw (dC, dI) [(cI, .int), (cJ, .long)] (va_A [(a_p0, .inr (4, [.int thrown, .int modes, .int products, .ref a_upsOf, .ref a_downsOf, .ref a_numberOf, .int wayKind, .ref z_rowOf, .ref z_writes, .ref a_reads, .int isImageKnown, .int madeState, .int madeSign, .ref a_matrix, .ref z_other, .int newMany, .ref z_newUps, .ref z_newDowns, .ref z_newNumber, .ref z_found, .ref a_image, .ref a_imagePlace, .int imagePower, .int imageMany, .int imageWires])), (a_upsOf, .inl (cI, 60, .inl upsOf)), (a_downsOf, .inl (cI, 60, .inl downsOf)), (a_numberOf, .inl (cJ, 60, .inr (.inl numberOf))), (a_reads, .inl (cI, 256, .inl reads)), (a_matrix, .inl (cJ, 65536, .inr (.inl matrix))), (a_image, .inl (cJ, 65536, .inr (.inl image))), (a_imagePlace, .inl (cI, 65536, .inl imagePlace))] sz) (fun w1 => w1 = [(a_p0, .inr (4, [.int thrown, .int modes, .int products, .ref a_upsOf, .ref a_downsOf, .ref a_numberOf, .int wayKind, .ref z_rowOf, .ref z_writes, .ref a_reads, .int u.1, .int u.2.1, .int u.2.2.1, .ref a_matrix, .ref z_other, .int newMany, .ref z_newUps, .ref z_newDowns, .ref z_newNumber, .ref z_found, .ref a_image, .ref a_imagePlace, .int u.2.2.2.1, .int u.2.2.2.2.1, .int u.2.2.2.2.2.1])), (a_upsOf, .inl (cI, 60, .inl upsOf)), (a_downsOf, .inl (cI, 60, .inl downsOf)), (a_numberOf, .inl (cJ, 60, .inr (.inl numberOf))), (a_reads, .inl (cI, 256, .inl reads)), (a_matrix, .inl (cJ, 65536, .inr (.inl u.2.2.2.2.2.2.1))), (a_image, .inl (cJ, 65536, .inr (.inl u.2.2.2.2.2.2.2.1))), (a_imagePlace, .inl (cI, 65536, .inl u.2.2.2.2.2.2.2.2))])) (va_A [(a_p0, .inr (4, [.int thrown, .int modes, .int products, .ref a_upsOf, .ref a_downsOf, .ref a_numberOf, .int wayKind, .ref z_rowOf, .ref z_writes, .ref a_reads, .int isImageKnown, .int madeState, .int madeSign, .ref a_matrix, .ref z_other, .int newMany, .ref z_newUps, .ref z_newDowns, .ref z_newNumber, .ref z_found, .ref a_image, .ref a_imagePlace, .int imagePower, .int imageMany, .int imageWires])), (a_upsOf, .inl (cI, 60, .inl upsOf)), (a_downsOf, .inl (cI, 60, .inl downsOf)), (a_numberOf, .inl (cJ, 60, .inr (.inl numberOf))), (a_reads, .inl (cI, 256, .inl reads)), (a_matrix, .inl (cJ, 65536, .inr (.inl matrix))), (a_image, .inl (cJ, 65536, .inr (.inl image))), (a_imagePlace, .inl (cI, 65536, .inl imagePlace))] sz)) 0 0 (va_A [(a_p0, .inr (4, [.int thrown, .int modes, .int products, .ref a_upsOf, .ref a_downsOf, .ref a_numberOf, .int wayKind, .ref z_rowOf, .ref z_writes, .ref a_reads, .int isImageKnown, .int madeState, .int madeSign, .ref a_matrix, .ref z_other, .int newMany, .ref z_newUps, .ref z_newDowns, .ref z_newNumber, .ref z_found, .ref a_image, .ref a_imagePlace, .int imagePower, .int imageMany, .int imageWires])), (a_upsOf, .inl (cI, 60, .inl upsOf)), (a_downsOf, .inl (cI, 60, .inl downsOf)), (a_numberOf, .inl (cJ, 60, .inr (.inl numberOf))), (a_reads, .inl (cI, 256, .inl reads)), (a_matrix, .inl (cJ, 65536, .inr (.inl matrix))), (a_image, .inl (cJ, 65536, .inr (.inl image))), (a_imagePlace, .inl (cI, 65536, .inl imagePlace))] sz) := by
  refine Met.ofW (cc := prog_6_method_31_code) (maxL := 3) (ret := none) (by decide) rfl ?_
  intro p e s m args below meth c s₁ B hml hv
  obtain ⟨rfl, hsz, hP, hK, hD0, hNW⟩ := hv
  have hx := B.exec
  have hb := B.bytes
  have hr := B.returns
  have hts := atoms_spec (ws := Cond.code y_Mo_findImage prog_6_method_31_code 3 none :: T0) B.pre
  have ht0 : ∀ w ∈ T0, w.before ([.ref a_p0] : List Value).toArray s = true := fun w h => hts w (List.mem_cons_of_mem _ h)
  have hown : s.vm.findClass "FermionMapsModel" = some m.cls := findClass_of_methodNamed B.named
  have hlocks := B.notSynchronized
  subst hsz
  have hD := hD0.self (sz := s.heap.size)
  generalize hAe : va_A [(a_p0, .inr (4, [.int thrown, .int modes, .int products, .ref a_upsOf, .ref a_downsOf, .ref a_numberOf, .int wayKind, .ref z_rowOf, .ref z_writes, .ref a_reads, .int isImageKnown, .int madeState, .int madeSign, .ref a_matrix, .ref z_other, .int newMany, .ref z_newUps, .ref z_newDowns, .ref z_newNumber, .ref z_found, .ref a_image, .ref a_imagePlace, .int imagePower, .int imageMany, .int imageWires])), (a_upsOf, .inl (cI, 60, .inl upsOf)), (a_downsOf, .inl (cI, 60, .inl downsOf)), (a_numberOf, .inl (cJ, 60, .inr (.inl numberOf))), (a_reads, .inl (cI, 256, .inl reads)), (a_matrix, .inl (cJ, 65536, .inr (.inl matrix))), (a_image, .inl (cJ, 65536, .inr (.inl image))), (a_imagePlace, .inl (cI, 65536, .inl imagePlace))] s.heap.size = A at hD ⊢
  have hA : ∀ q : Nat, s.heap.size ≤ q → A q := fun q h => by rw [← hAe]; exact Or.inr h
  have hS : va_S A s.heap s.heap [] := va_S.rf
  have hl := lv_entry ([.ref a_p0]) (n := 3) (Nat.le_of_ble_eq_true rfl)
  rw [lg_entry_eq]
  generalize (lg_sl ([.ref a_p0]) ++ List.replicate (3 - (lg_sl ([.ref a_p0])).length) Slot.unset).toArray = ls at hl ⊢
  have hl : lv_has ls 3 [(0, .ref a_p0)] := hl
  refine W.nameQ (fun Q hQ => ?_)
  have B_122 : ∀ (k_106 : Int32 → Int32 → Int32 → Int32 → Int32 → Int32 → (Nat → Int64) → (Nat → Int64) → (Nat → Int32) → Option (Int32 × Int32 × Int32 × Int32 × Int32 × Int32 × (Nat → Int64) × (Nat → Int64) × (Nat → Int32))) (hk_106 : ∀ (isImageKnown : Int32) (madeState : Int32) (madeSign : Int32) (imagePower : Int32) (imageMany : Int32) (imageWires : Int32) (matrix : Nat → Int64) (image : Nat → Int64) (imagePlace : Nat → Int32) (H : Heap) (locs : List Loc) (ls : Array Slot), k_106 isImageKnown madeState madeSign imagePower imageMany imageWires matrix image imagePlace = some u → va_P (dC, dI) cls [(a_p0, .inr (4, [.int thrown, .int modes, .int products, .ref a_upsOf, .ref a_downsOf, .ref a_numberOf, .int wayKind, .ref z_rowOf, .ref z_writes, .ref a_reads, .int isImageKnown, .int madeState, .int madeSign, .ref a_matrix, .ref z_other, .int newMany, .ref z_newUps, .ref z_newDowns, .ref z_newNumber, .ref z_found, .ref a_image, .ref a_imagePlace, .int imagePower, .int imageMany, .int imageWires])), (a_upsOf, .inl (cI, 60, .inl upsOf)), (a_downsOf, .inl (cI, 60, .inl downsOf)), (a_numberOf, .inl (cJ, 60, .inr (.inl numberOf))), (a_reads, .inl (cI, 256, .inl reads)), (a_matrix, .inl (cJ, 65536, .inr (.inl matrix))), (a_image, .inl (cJ, 65536, .inr (.inl image))), (a_imagePlace, .inl (cI, 65536, .inl imagePlace))] H → va_D A [(a_p0, .inr (4, [.int thrown, .int modes, .int products, .ref a_upsOf, .ref a_downsOf, .ref a_numberOf, .int wayKind, .ref z_rowOf, .ref z_writes, .ref a_reads, .int isImageKnown, .int madeState, .int madeSign, .ref a_matrix, .ref z_other, .int newMany, .ref z_newUps, .ref z_newDowns, .ref z_newNumber, .ref z_found, .ref a_image, .ref a_imagePlace, .int imagePower, .int imageMany, .int imageWires])), (a_upsOf, .inl (cI, 60, .inl upsOf)), (a_downsOf, .inl (cI, 60, .inl downsOf)), (a_numberOf, .inl (cJ, 60, .inr (.inl numberOf))), (a_reads, .inl (cI, 256, .inl reads)), (a_matrix, .inl (cJ, 65536, .inr (.inl matrix))), (a_image, .inl (cJ, 65536, .inr (.inl image))), (a_imagePlace, .inl (cI, 65536, .inl imagePlace))] → va_S A s.heap H locs → lv_has ls 3 [(0, .ref a_p0)] → W p l e (headSpec (Cond.code y_Mo_findImage prog_6_method_31_code 3 none :: T0) rm_Mo_findImage).room s m ([.ref a_p0] : List Value).toArray below meth c H locs 0 0 Q (F0 m 106 ls [])), ∀ (n : Nat), ∀ (x1 : Int32) (isImageKnown : Int32) (madeState : Int32) (madeSign : Int32) (imagePower : Int32) (imageMany : Int32) (imageWires : Int32) (matrix : Nat → Int64) (image : Nat → Int64) (imagePlace : Nat → Int32) (H : Heap) (locs : List Loc) (ls : Array Slot), b_Mo_findImage_122 F k_106 modes products upsOf downsOf numberOf reads n x1 isImageKnown madeState madeSign imagePower imageMany imageWires matrix image imagePlace = some u → va_P (dC, dI) cls [(a_p0, .inr (4, [.int thrown, .int modes, .int products, .ref a_upsOf, .ref a_downsOf, .ref a_numberOf, .int wayKind, .ref z_rowOf, .ref z_writes, .ref a_reads, .int isImageKnown, .int madeState, .int madeSign, .ref a_matrix, .ref z_other, .int newMany, .ref z_newUps, .ref z_newDowns, .ref z_newNumber, .ref z_found, .ref a_image, .ref a_imagePlace, .int imagePower, .int imageMany, .int imageWires])), (a_upsOf, .inl (cI, 60, .inl upsOf)), (a_downsOf, .inl (cI, 60, .inl downsOf)), (a_numberOf, .inl (cJ, 60, .inr (.inl numberOf))), (a_reads, .inl (cI, 256, .inl reads)), (a_matrix, .inl (cJ, 65536, .inr (.inl matrix))), (a_image, .inl (cJ, 65536, .inr (.inl image))), (a_imagePlace, .inl (cI, 65536, .inl imagePlace))] H → va_D A [(a_p0, .inr (4, [.int thrown, .int modes, .int products, .ref a_upsOf, .ref a_downsOf, .ref a_numberOf, .int wayKind, .ref z_rowOf, .ref z_writes, .ref a_reads, .int isImageKnown, .int madeState, .int madeSign, .ref a_matrix, .ref z_other, .int newMany, .ref z_newUps, .ref z_newDowns, .ref z_newNumber, .ref z_found, .ref a_image, .ref a_imagePlace, .int imagePower, .int imageMany, .int imageWires])), (a_upsOf, .inl (cI, 60, .inl upsOf)), (a_downsOf, .inl (cI, 60, .inl downsOf)), (a_numberOf, .inl (cJ, 60, .inr (.inl numberOf))), (a_reads, .inl (cI, 256, .inl reads)), (a_matrix, .inl (cJ, 65536, .inr (.inl matrix))), (a_image, .inl (cJ, 65536, .inr (.inl image))), (a_imagePlace, .inl (cI, 65536, .inl imagePlace))] → va_S A s.heap H locs → lv_has ls 3 [(0, .ref a_p0), (1, .int x1)] → W p l e (headSpec (Cond.code y_Mo_findImage prog_6_method_31_code 3 none :: T0) rm_Mo_findImage).room s m ([.ref a_p0] : List Value).toArray below meth c H locs 0 0 Q (F0 m 122 ls []) := by
    intro k_106 hk_106
    intro n
    induction n with
    | zero =>
      intro x1 isImageKnown madeState madeSign imagePower imageMany imageWires matrix image imagePlace H locs ls hf hP hD hS hl
      exact no_fuel hf
    | succ n ih =>
      intro x1 isImageKnown madeState madeSign imagePower imageMany imageWires matrix image imagePlace H locs ls hf hP hD hS hl
      rw [b_Mo_findImage_122] at hf
      refine lv_iload_n hx hb d_Mo_findImage_122 rfl (lv_at hl 1 rfl) ?_
      refine lv_aload_n hx hb d_Mo_findImage_123 rfl (lv_at hl 0 rfl) ?_
      refine va_get (D := (dC, dI)) (ci := 4) (v := .int imageMany) (C := "FermionMapsModel") (T := F_Mo) (N := 25) hx hb ht0 i_Mo hown hK hP 0 rfl rfl 23 (by decide) (ht0 _ m_480) (fun _ h9 => h9) rfl d_Mo_findImage_124 ?_
      refine lv_icmp_ge (tgt := 162) hx hb d_Mo_findImage_127 (by decide) (fun c_9 => ?_) (fun c_9 => ?_)
      · replace hf := if_t c_9 hf
        refine lv_aload_n hx hb d_Mo_findImage_162 rfl (lv_at hl 0 rfl) ?_
        refine lv_dup hx hb d_Mo_findImage_163 rfl ?_
        refine va_get (D := (dC, dI)) (ci := 4) (v := .int imagePower) (C := "FermionMapsModel") (T := F_Mo) (N := 25) hx hb ht0 i_Mo hown hK hP 0 rfl rfl 22 (by decide) (ht0 _ m_479) (fun _ h9 => h9) rfl d_Mo_findImage_164 ?_
        refine lv_iconst (v := 1) hx hb d_Mo_findImage_167 (by decide) ?_
        refine lv_isub hx hb d_Mo_findImage_168 ?_
        refine lv_topi (fun imagePower_10 e_imagePower_10 => ?_)
        replace hf := nm_eq e_imagePower_10 hf
        refine va_put (D := (dC, dI)) (ci := 4) (v := .int imagePower_10) (ty := .int) (C := "FermionMapsModel") (T := F_Mo) (N := 25) hx hb ht0 i_Mo t_Mo t_Mo_ok n_Mo hown hK hP hD hS 0 rfl rfl 22 (by decide) (ht0 _ m_479) (fun _ h9 => h9) rfl (by decide +kernel) rfl rfl (Nat.le_of_ble_eq_true rfl) d_Mo_findImage_169 (fun H locs hP hD hS => ?_)
        have hP : va_P (dC, dI) cls [(a_p0, .inr (4, [.int thrown, .int modes, .int products, .ref a_upsOf, .ref a_downsOf, .ref a_numberOf, .int wayKind, .ref z_rowOf, .ref z_writes, .ref a_reads, .int isImageKnown, .int madeState, .int madeSign, .ref a_matrix, .ref z_other, .int newMany, .ref z_newUps, .ref z_newDowns, .ref z_newNumber, .ref z_found, .ref a_image, .ref a_imagePlace, .int imagePower_10, .int imageMany, .int imageWires])), (a_upsOf, .inl (cI, 60, .inl upsOf)), (a_downsOf, .inl (cI, 60, .inl downsOf)), (a_numberOf, .inl (cJ, 60, .inr (.inl numberOf))), (a_reads, .inl (cI, 256, .inl reads)), (a_matrix, .inl (cJ, 65536, .inr (.inl matrix))), (a_image, .inl (cJ, 65536, .inr (.inl image))), (a_imagePlace, .inl (cI, 65536, .inl imagePlace))] H := hP
        have hD : va_D A [(a_p0, .inr (4, [.int thrown, .int modes, .int products, .ref a_upsOf, .ref a_downsOf, .ref a_numberOf, .int wayKind, .ref z_rowOf, .ref z_writes, .ref a_reads, .int isImageKnown, .int madeState, .int madeSign, .ref a_matrix, .ref z_other, .int newMany, .ref z_newUps, .ref z_newDowns, .ref z_newNumber, .ref z_found, .ref a_image, .ref a_imagePlace, .int imagePower_10, .int imageMany, .int imageWires])), (a_upsOf, .inl (cI, 60, .inl upsOf)), (a_downsOf, .inl (cI, 60, .inl downsOf)), (a_numberOf, .inl (cJ, 60, .inr (.inl numberOf))), (a_reads, .inl (cI, 256, .inl reads)), (a_matrix, .inl (cJ, 65536, .inr (.inl matrix))), (a_image, .inl (cJ, 65536, .inr (.inl image))), (a_imagePlace, .inl (cI, 65536, .inl imagePlace))] := hD
        refine lv_goto (tgt := 106) hx hb d_Mo_findImage_172 (by decide) ?_
        exact hk_106 isImageKnown madeState madeSign imagePower_10 imageMany imageWires matrix image imagePlace H locs ls hf hP hD hS (lv_sub hl [0] rfl)
      · replace hf := if_f c_9 hf
        refine lv_aload_n hx hb d_Mo_findImage_130 rfl (lv_at hl 0 rfl) ?_
        refine va_get (D := (dC, dI)) (ci := 4) (v := .ref a_image) (C := "FermionMapsModel") (T := F_Mo) (N := 25) hx hb ht0 i_Mo hown hK hP 0 rfl rfl 20 (by decide) (ht0 _ m_477) (fun _ h9 => h9) rfl d_Mo_findImage_131 ?_
        refine lv_aload_n hx hb d_Mo_findImage_134 rfl (lv_at hl 0 rfl) ?_
        refine va_get (D := (dC, dI)) (ci := 4) (v := .ref a_imagePlace) (C := "FermionMapsModel") (T := F_Mo) (N := 25) hx hb ht0 i_Mo hown hK hP 0 rfl rfl 21 (by decide) (ht0 _ m_478) (fun _ h9 => h9) rfl d_Mo_findImage_135 ?_
        refine lv_iload_n hx hb d_Mo_findImage_138 rfl (lv_at hl 1 rfl) ?_
        obtain ⟨hi_11, hf⟩ := ckI_ok hf
        refine va_iald hx hb hK hP 7 0 rfl rfl hi_11 d_Mo_findImage_139 ?_
        refine lv_aload_n hx hb d_Mo_findImage_140 rfl (lv_at hl 0 rfl) ?_
        refine va_get (D := (dC, dI)) (ci := 4) (v := .ref a_image) (C := "FermionMapsModel") (T := F_Mo) (N := 25) hx hb ht0 i_Mo hown hK hP 0 rfl rfl 20 (by decide) (ht0 _ m_477) (fun _ h9 => h9) rfl d_Mo_findImage_141 ?_
        refine lv_aload_n hx hb d_Mo_findImage_144 rfl (lv_at hl 0 rfl) ?_
        refine va_get (D := (dC, dI)) (ci := 4) (v := .ref a_imagePlace) (C := "FermionMapsModel") (T := F_Mo) (N := 25) hx hb ht0 i_Mo hown hK hP 0 rfl rfl 21 (by decide) (ht0 _ m_478) (fun _ h9 => h9) rfl d_Mo_findImage_145 ?_
        refine lv_iload_n hx hb d_Mo_findImage_148 rfl (lv_at hl 1 rfl) ?_
        obtain ⟨hi_12, hf⟩ := ckI_ok hf
        refine va_iald hx hb hK hP 7 0 rfl rfl hi_12 d_Mo_findImage_149 ?_
        refine lv_topi (fun t_13 e_t_13 => ?_)
        replace hf := nm_eq e_t_13 hf
        obtain ⟨hi_14, hf⟩ := ckI_ok hf
        refine va_lald hx hb hK hP 6 1 rfl rfl hi_14 d_Mo_findImage_150 ?_
        refine lv_ldc2 hx hb hown (ht0 _ m_635) d_Mo_findImage_151 ?_
        obtain ⟨hz_15, hf⟩ := ckZl_ok hf
        refine lv_ldiv hx hb d_Mo_findImage_154 hz_15 ?_
        refine lv_topl (fun t_16 e_t_16 => ?_)
        replace hf := nm_eq e_t_16 hf
        obtain ⟨hi_17, hf⟩ := ckI_ok hf
        refine va_last hx hb hK hP hD hS 6 1 rfl rfl hi_17 d_Mo_findImage_155 (fun H locs hP hD hS => ?_)
        have hP : va_P (dC, dI) cls [(a_p0, .inr (4, [.int thrown, .int modes, .int products, .ref a_upsOf, .ref a_downsOf, .ref a_numberOf, .int wayKind, .ref z_rowOf, .ref z_writes, .ref a_reads, .int isImageKnown, .int madeState, .int madeSign, .ref a_matrix, .ref z_other, .int newMany, .ref z_newUps, .ref z_newDowns, .ref z_newNumber, .ref z_found, .ref a_image, .ref a_imagePlace, .int imagePower, .int imageMany, .int imageWires])), (a_upsOf, .inl (cI, 60, .inl upsOf)), (a_downsOf, .inl (cI, 60, .inl downsOf)), (a_numberOf, .inl (cJ, 60, .inr (.inl numberOf))), (a_reads, .inl (cI, 256, .inl reads)), (a_matrix, .inl (cJ, 65536, .inr (.inl matrix))), (a_image, .inl (cJ, 65536, .inr (.inl (vp_updL image (imagePlace x1.toNatClampNeg).toNatClampNeg t_16)))), (a_imagePlace, .inl (cI, 65536, .inl imagePlace))] H := hP
        have hD : va_D A [(a_p0, .inr (4, [.int thrown, .int modes, .int products, .ref a_upsOf, .ref a_downsOf, .ref a_numberOf, .int wayKind, .ref z_rowOf, .ref z_writes, .ref a_reads, .int isImageKnown, .int madeState, .int madeSign, .ref a_matrix, .ref z_other, .int newMany, .ref z_newUps, .ref z_newDowns, .ref z_newNumber, .ref z_found, .ref a_image, .ref a_imagePlace, .int imagePower, .int imageMany, .int imageWires])), (a_upsOf, .inl (cI, 60, .inl upsOf)), (a_downsOf, .inl (cI, 60, .inl downsOf)), (a_numberOf, .inl (cJ, 60, .inr (.inl numberOf))), (a_reads, .inl (cI, 256, .inl reads)), (a_matrix, .inl (cJ, 65536, .inr (.inl matrix))), (a_image, .inl (cJ, 65536, .inr (.inl (vp_updL image (imagePlace x1.toNatClampNeg).toNatClampNeg t_16)))), (a_imagePlace, .inl (cI, 65536, .inl imagePlace))] := hD
        obtain ⟨x1_18, e_x1_18⟩ : ∃ y : Int32, y = x1 + 1 := ⟨_, rfl⟩
        replace hf := nm_eq e_x1_18 hf
        refine lv_iinc (v := x1_18) (lv' := [(1, .int x1_18), (0, .ref a_p0)]) hx hb d_Mo_findImage_156 hl (k := 1) rfl (by rw [e_x1_18]; rfl) (by decide) rfl (fun ls hl => ?_)
        refine lv_goto (tgt := 122) hx hb d_Mo_findImage_159 (by decide) ?_
        exact ih x1_18 isImageKnown madeState madeSign imagePower imageMany imageWires matrix (vp_updL image (imagePlace x1.toNatClampNeg).toNatClampNeg t_16) imagePlace H locs ls hf hP hD hS (lv_sub hl [1, 0] rfl)
  have B_106 : ∀ (n : Nat), ∀ (isImageKnown : Int32) (madeState : Int32) (madeSign : Int32) (imagePower : Int32) (imageMany : Int32) (imageWires : Int32) (matrix : Nat → Int64) (image : Nat → Int64) (imagePlace : Nat → Int32) (H : Heap) (locs : List Loc) (ls : Array Slot), b_Mo_findImage_106 F modes products upsOf downsOf numberOf reads n isImageKnown madeState madeSign imagePower imageMany imageWires matrix image imagePlace = some u → va_P (dC, dI) cls [(a_p0, .inr (4, [.int thrown, .int modes, .int products, .ref a_upsOf, .ref a_downsOf, .ref a_numberOf, .int wayKind, .ref z_rowOf, .ref z_writes, .ref a_reads, .int isImageKnown, .int madeState, .int madeSign, .ref a_matrix, .ref z_other, .int newMany, .ref z_newUps, .ref z_newDowns, .ref z_newNumber, .ref z_found, .ref a_image, .ref a_imagePlace, .int imagePower, .int imageMany, .int imageWires])), (a_upsOf, .inl (cI, 60, .inl upsOf)), (a_downsOf, .inl (cI, 60, .inl downsOf)), (a_numberOf, .inl (cJ, 60, .inr (.inl numberOf))), (a_reads, .inl (cI, 256, .inl reads)), (a_matrix, .inl (cJ, 65536, .inr (.inl matrix))), (a_image, .inl (cJ, 65536, .inr (.inl image))), (a_imagePlace, .inl (cI, 65536, .inl imagePlace))] H → va_D A [(a_p0, .inr (4, [.int thrown, .int modes, .int products, .ref a_upsOf, .ref a_downsOf, .ref a_numberOf, .int wayKind, .ref z_rowOf, .ref z_writes, .ref a_reads, .int isImageKnown, .int madeState, .int madeSign, .ref a_matrix, .ref z_other, .int newMany, .ref z_newUps, .ref z_newDowns, .ref z_newNumber, .ref z_found, .ref a_image, .ref a_imagePlace, .int imagePower, .int imageMany, .int imageWires])), (a_upsOf, .inl (cI, 60, .inl upsOf)), (a_downsOf, .inl (cI, 60, .inl downsOf)), (a_numberOf, .inl (cJ, 60, .inr (.inl numberOf))), (a_reads, .inl (cI, 256, .inl reads)), (a_matrix, .inl (cJ, 65536, .inr (.inl matrix))), (a_image, .inl (cJ, 65536, .inr (.inl image))), (a_imagePlace, .inl (cI, 65536, .inl imagePlace))] → va_S A s.heap H locs → lv_has ls 3 [(0, .ref a_p0)] → W p l e (headSpec (Cond.code y_Mo_findImage prog_6_method_31_code 3 none :: T0) rm_Mo_findImage).room s m ([.ref a_p0] : List Value).toArray below meth c H locs 0 0 Q (F0 m 106 ls []) := by
    intro n
    induction n with
    | zero =>
      intro isImageKnown madeState madeSign imagePower imageMany imageWires matrix image imagePlace H locs ls hf hP hD hS hl
      exact no_fuel hf
    | succ n ih =>
      intro isImageKnown madeState madeSign imagePower imageMany imageWires matrix image imagePlace H locs ls hf hP hD hS hl
      rw [b_Mo_findImage_106] at hf
      refine lv_aload_n hx hb d_Mo_findImage_106 rfl (lv_at hl 0 rfl) ?_
      refine va_get (D := (dC, dI)) (ci := 4) (v := .int imagePower) (C := "FermionMapsModel") (T := F_Mo) (N := 25) hx hb ht0 i_Mo hown hK hP 0 rfl rfl 22 (by decide) (ht0 _ m_479) (fun _ h9 => h9) rfl d_Mo_findImage_107 ?_
      refine lv_if_le (tgt := 175) hx hb d_Mo_findImage_110 (by decide) (fun c_6 => ?_) (fun c_6 => ?_)
      · replace hf := if_t c_6 hf
        have hu := Option.some.inj hf
        subst hu
        exact rw_v hQ rfl hP hD hK hS hx hb hr hlocks d_Mo_findImage_175
      · replace hf := if_f c_6 hf
        refine lv_aload_n hx hb d_Mo_findImage_113 rfl (lv_at hl 0 rfl) ?_
        obtain ⟨u_7, h_u_7, hf⟩ := bd hf
        refine rd_i (rdV_run (As := []) (rest := []) ⟨hx, hb, hml, hown, ht0⟩ (c_Mo_isAllEven l dC dI cI cJ a_p0 a_image a_imagePlace a_upsOf a_downsOf a_numberOf z_rowOf z_writes a_reads a_matrix z_other z_newUps z_newDowns z_newNumber z_found thrown modes products wayKind isImageKnown madeState madeSign newMany imagePower imageMany imageWires image imagePlace F u_7 h_u_7) (cwV 0 ht0 (gV m_631 m_633 (T0_pr (y := ⟨"FermionMapsModel", "isAllEven", "()Z"⟩) (i := 19) rfl rfl) m_5 m_634) rfl rfl rfl (by decide +kernel) ⟨Nat.le_of_ble_eq_true rfl, Nat.le_of_ble_eq_true rfl⟩) hK hNW hP [0, 6, 7] rfl (ci := 4) (q0 := 0) rfl rfl rfl hl.1 rfl (Nat.le_of_ble_eq_true rfl) d_Mo_findImage_114 ⟨Nat.zero_le _, Nat.zero_le _⟩) ?_
        refine lv_if_eq (tgt := 175) hx hb d_Mo_findImage_117 (by decide) (fun c_8 => ?_) (fun c_8 => ?_)
        · replace hf := if_t c_8 hf
          have hu := Option.some.inj hf
          subst hu
          exact rw_v hQ rfl hP hD hK hS hx hb hr hlocks d_Mo_findImage_175
        · replace hf := if_f c_8 hf
          refine lv_iconst (v := 0) hx hb d_Mo_findImage_120 (by decide) ?_
          refine lv_istore_n (lv' := [(1, .int 0), (0, .ref a_p0)]) hx hb d_Mo_findImage_121 rfl hl (by decide) rfl (fun ls hl => ?_)
          exact B_122 (b_Mo_findImage_106 F modes products upsOf downsOf numberOf reads n) ih F 0 isImageKnown madeState madeSign imagePower imageMany imageWires matrix image imagePlace H locs ls hf hP hD hS (lv_sub hl [1, 0] rfl)
  have B_29 : ∀ (k_19 : Int32 → Int32 → Int32 → Int32 → Int32 → Int32 → Int32 → (Nat → Int64) → (Nat → Int64) → (Nat → Int32) → Option (Int32 × Int32 × Int32 × Int32 × Int32 × Int32 × (Nat → Int64) × (Nat → Int64) × (Nat → Int32))) (hk_19 : ∀ (x1 : Int32) (isImageKnown : Int32) (madeState : Int32) (madeSign : Int32) (imagePower : Int32) (imageMany : Int32) (imageWires : Int32) (matrix : Nat → Int64) (image : Nat → Int64) (imagePlace : Nat → Int32) (H : Heap) (locs : List Loc) (ls : Array Slot), k_19 x1 isImageKnown madeState madeSign imagePower imageMany imageWires matrix image imagePlace = some u → va_P (dC, dI) cls [(a_p0, .inr (4, [.int thrown, .int modes, .int products, .ref a_upsOf, .ref a_downsOf, .ref a_numberOf, .int wayKind, .ref z_rowOf, .ref z_writes, .ref a_reads, .int isImageKnown, .int madeState, .int madeSign, .ref a_matrix, .ref z_other, .int newMany, .ref z_newUps, .ref z_newDowns, .ref z_newNumber, .ref z_found, .ref a_image, .ref a_imagePlace, .int imagePower, .int imageMany, .int imageWires])), (a_upsOf, .inl (cI, 60, .inl upsOf)), (a_downsOf, .inl (cI, 60, .inl downsOf)), (a_numberOf, .inl (cJ, 60, .inr (.inl numberOf))), (a_reads, .inl (cI, 256, .inl reads)), (a_matrix, .inl (cJ, 65536, .inr (.inl matrix))), (a_image, .inl (cJ, 65536, .inr (.inl image))), (a_imagePlace, .inl (cI, 65536, .inl imagePlace))] H → va_D A [(a_p0, .inr (4, [.int thrown, .int modes, .int products, .ref a_upsOf, .ref a_downsOf, .ref a_numberOf, .int wayKind, .ref z_rowOf, .ref z_writes, .ref a_reads, .int isImageKnown, .int madeState, .int madeSign, .ref a_matrix, .ref z_other, .int newMany, .ref z_newUps, .ref z_newDowns, .ref z_newNumber, .ref z_found, .ref a_image, .ref a_imagePlace, .int imagePower, .int imageMany, .int imageWires])), (a_upsOf, .inl (cI, 60, .inl upsOf)), (a_downsOf, .inl (cI, 60, .inl downsOf)), (a_numberOf, .inl (cJ, 60, .inr (.inl numberOf))), (a_reads, .inl (cI, 256, .inl reads)), (a_matrix, .inl (cJ, 65536, .inr (.inl matrix))), (a_image, .inl (cJ, 65536, .inr (.inl image))), (a_imagePlace, .inl (cI, 65536, .inl imagePlace))] → va_S A s.heap H locs → lv_has ls 3 [(0, .ref a_p0), (1, .int x1)] → W p l e (headSpec (Cond.code y_Mo_findImage prog_6_method_31_code 3 none :: T0) rm_Mo_findImage).room s m ([.ref a_p0] : List Value).toArray below meth c H locs 0 0 Q (F0 m 19 ls [])), ∀ (n : Nat), ∀ (x1 : Int32) (x2 : Int32) (isImageKnown : Int32) (madeState : Int32) (madeSign : Int32) (imagePower : Int32) (imageMany : Int32) (imageWires : Int32) (matrix : Nat → Int64) (image : Nat → Int64) (imagePlace : Nat → Int32) (H : Heap) (locs : List Loc) (ls : Array Slot), b_Mo_findImage_29 F k_19 modes products upsOf downsOf numberOf reads n x1 x2 isImageKnown madeState madeSign imagePower imageMany imageWires matrix image imagePlace = some u → va_P (dC, dI) cls [(a_p0, .inr (4, [.int thrown, .int modes, .int products, .ref a_upsOf, .ref a_downsOf, .ref a_numberOf, .int wayKind, .ref z_rowOf, .ref z_writes, .ref a_reads, .int isImageKnown, .int madeState, .int madeSign, .ref a_matrix, .ref z_other, .int newMany, .ref z_newUps, .ref z_newDowns, .ref z_newNumber, .ref z_found, .ref a_image, .ref a_imagePlace, .int imagePower, .int imageMany, .int imageWires])), (a_upsOf, .inl (cI, 60, .inl upsOf)), (a_downsOf, .inl (cI, 60, .inl downsOf)), (a_numberOf, .inl (cJ, 60, .inr (.inl numberOf))), (a_reads, .inl (cI, 256, .inl reads)), (a_matrix, .inl (cJ, 65536, .inr (.inl matrix))), (a_image, .inl (cJ, 65536, .inr (.inl image))), (a_imagePlace, .inl (cI, 65536, .inl imagePlace))] H → va_D A [(a_p0, .inr (4, [.int thrown, .int modes, .int products, .ref a_upsOf, .ref a_downsOf, .ref a_numberOf, .int wayKind, .ref z_rowOf, .ref z_writes, .ref a_reads, .int isImageKnown, .int madeState, .int madeSign, .ref a_matrix, .ref z_other, .int newMany, .ref z_newUps, .ref z_newDowns, .ref z_newNumber, .ref z_found, .ref a_image, .ref a_imagePlace, .int imagePower, .int imageMany, .int imageWires])), (a_upsOf, .inl (cI, 60, .inl upsOf)), (a_downsOf, .inl (cI, 60, .inl downsOf)), (a_numberOf, .inl (cJ, 60, .inr (.inl numberOf))), (a_reads, .inl (cI, 256, .inl reads)), (a_matrix, .inl (cJ, 65536, .inr (.inl matrix))), (a_image, .inl (cJ, 65536, .inr (.inl image))), (a_imagePlace, .inl (cI, 65536, .inl imagePlace))] → va_S A s.heap H locs → lv_has ls 3 [(0, .ref a_p0), (1, .int x1), (2, .int x2)] → W p l e (headSpec (Cond.code y_Mo_findImage prog_6_method_31_code 3 none :: T0) rm_Mo_findImage).room s m ([.ref a_p0] : List Value).toArray below meth c H locs 0 0 Q (F0 m 29 ls []) := by
    intro k_19 hk_19
    intro n
    induction n with
    | zero =>
      intro x1 x2 isImageKnown madeState madeSign imagePower imageMany imageWires matrix image imagePlace H locs ls hf hP hD hS hl
      exact no_fuel hf
    | succ n ih =>
      intro x1 x2 isImageKnown madeState madeSign imagePower imageMany imageWires matrix image imagePlace H locs ls hf hP hD hS hl
      rw [b_Mo_findImage_29] at hf
      refine lv_iload_n hx hb d_Mo_findImage_29 rfl (lv_at hl 2 rfl) ?_
      refine lv_aload_n hx hb d_Mo_findImage_30 rfl (lv_at hl 0 rfl) ?_
      obtain ⟨u_19, h_u_19, hf⟩ := bd hf
      refine rd_i (rdV_run (As := []) (rest := [.int x2]) ⟨hx, hb, hml, hown, ht0⟩ (c_Mo_states l dC dI cI cJ a_p0 a_upsOf a_downsOf a_numberOf z_rowOf z_writes a_reads a_matrix z_other z_newUps z_newDowns z_newNumber z_found a_image a_imagePlace thrown modes products wayKind isImageKnown madeState madeSign newMany imagePower imageMany imageWires F u_19 h_u_19) (cwV 0 ht0 (gV m_442 m_444 (T0_pr (y := ⟨"FermionMapsModel", "states", "()I"⟩) (i := 4) rfl rfl) m_5 m_445) rfl rfl rfl (by decide +kernel) ⟨Nat.le_of_ble_eq_true rfl, Nat.le_of_ble_eq_true rfl⟩) hK hNW hP [0] rfl (ci := 4) (q0 := 0) rfl rfl rfl hl.1 rfl (Nat.le_of_ble_eq_true rfl) d_Mo_findImage_31 ⟨Nat.zero_le _, Nat.zero_le _⟩) ?_
      refine lv_icmp_ge (tgt := 79) hx hb d_Mo_findImage_34 (by decide) (fun c_20 => ?_) (fun c_20 => ?_)
      · replace hf := if_t c_20 hf
        refine lv_aload_n hx hb d_Mo_findImage_79 rfl (lv_at hl 0 rfl) ?_
        refine lv_sipush (v := 256) hx hb d_Mo_findImage_80 (by decide) ?_
        refine lv_iload_n hx hb d_Mo_findImage_83 rfl (lv_at hl 1 rfl) ?_
        refine lv_imul hx hb d_Mo_findImage_84 ?_
        obtain ⟨u_21, h_u_21, hf⟩ := bd hf
        refine wr_v (wr := [(a_upsOf, .inl (cI, 60, .inl upsOf)), (a_downsOf, .inl (cI, 60, .inl downsOf)), (a_numberOf, .inl (cJ, 60, .inr (.inl numberOf))), (a_reads, .inl (cI, 256, .inl reads)), (a_matrix, .inl (cJ, 65536, .inr (.inl matrix))), (a_imagePlace, .inl (cI, 65536, .inl imagePlace))]) (wrV_run (As := [.int (256 * x1)]) (rest := []) ⟨hx, hb, hml, hown, ht0⟩ (c_Mo_addUp l dC dI cI cJ a_p0 a_image a_upsOf a_downsOf a_numberOf z_rowOf z_writes a_reads a_matrix z_other z_newUps z_newDowns z_newNumber z_found a_imagePlace H.size thrown modes products wayKind isImageKnown madeState madeSign newMany imagePower imageMany imageWires image (256 * x1) F u_21 h_u_21) (cwV 1 ht0 (gV m_623 m_625 (T0_pr (y := ⟨"FermionMapsModel", "addUp", "(I)V"⟩) (i := 17) rfl rfl) m_5 m_626) rfl rfl rfl (by decide +kernel) ⟨Nat.le_of_ble_eq_true rfl, Nat.le_of_ble_eq_true rfl⟩) hK hNW hP hD [0, 6] rfl rfl (by decide) (ci := 4) (q0 := 0) rfl rfl rfl hl.1 rfl (Nat.le_of_ble_eq_true rfl) d_Mo_findImage_85 ⟨Nat.zero_le _, Nat.zero_le _⟩) hP hD hS hA [0, 6] [1, 2, 3, 4, 5, 7] rfl rfl (by decide) (by decide) (fun w1 H locs hw hP hD hS => ?_)
        obtain rfl := hw
        have hP : va_P (dC, dI) cls [(a_p0, .inr (4, [.int thrown, .int modes, .int products, .ref a_upsOf, .ref a_downsOf, .ref a_numberOf, .int wayKind, .ref z_rowOf, .ref z_writes, .ref a_reads, .int isImageKnown, .int madeState, .int madeSign, .ref a_matrix, .ref z_other, .int newMany, .ref z_newUps, .ref z_newDowns, .ref z_newNumber, .ref z_found, .ref a_image, .ref a_imagePlace, .int imagePower, .int imageMany, .int imageWires])), (a_upsOf, .inl (cI, 60, .inl upsOf)), (a_downsOf, .inl (cI, 60, .inl downsOf)), (a_numberOf, .inl (cJ, 60, .inr (.inl numberOf))), (a_reads, .inl (cI, 256, .inl reads)), (a_matrix, .inl (cJ, 65536, .inr (.inl matrix))), (a_image, .inl (cJ, 65536, .inr (.inl u_21))), (a_imagePlace, .inl (cI, 65536, .inl imagePlace))] H := hP.sub [6, 0, 1, 2, 3, 4, 7, 5] rfl
        have hD : va_D A [(a_p0, .inr (4, [.int thrown, .int modes, .int products, .ref a_upsOf, .ref a_downsOf, .ref a_numberOf, .int wayKind, .ref z_rowOf, .ref z_writes, .ref a_reads, .int isImageKnown, .int madeState, .int madeSign, .ref a_matrix, .ref z_other, .int newMany, .ref z_newUps, .ref z_newDowns, .ref z_newNumber, .ref z_found, .ref a_image, .ref a_imagePlace, .int imagePower, .int imageMany, .int imageWires])), (a_upsOf, .inl (cI, 60, .inl upsOf)), (a_downsOf, .inl (cI, 60, .inl downsOf)), (a_numberOf, .inl (cJ, 60, .inr (.inl numberOf))), (a_reads, .inl (cI, 256, .inl reads)), (a_matrix, .inl (cJ, 65536, .inr (.inl matrix))), (a_image, .inl (cJ, 65536, .inr (.inl u_21))), (a_imagePlace, .inl (cI, 65536, .inl imagePlace))] := hD.sub [6, 0, 1, 2, 3, 4, 7, 5] (by decide) rfl
        obtain ⟨x1_22, e_x1_22⟩ : ∃ y : Int32, y = x1 + 1 := ⟨_, rfl⟩
        replace hf := nm_eq e_x1_22 hf
        refine lv_iinc (v := x1_22) (lv' := [(1, .int x1_22), (0, .ref a_p0), (2, .int x2)]) hx hb d_Mo_findImage_88 hl (k := 1) rfl (by rw [e_x1_22]; rfl) (by decide) rfl (fun ls hl => ?_)
        refine lv_goto (tgt := 19) hx hb d_Mo_findImage_91 (by decide) ?_
        exact hk_19 x1_22 isImageKnown madeState madeSign imagePower imageMany imageWires matrix u_21 imagePlace H locs ls hf hP hD hS (lv_sub hl [1, 0] rfl)
      · replace hf := if_f c_20 hf
        refine lv_aload_n hx hb d_Mo_findImage_37 rfl (lv_at hl 0 rfl) ?_
        refine va_get (D := (dC, dI)) (ci := 4) (v := .ref a_image) (C := "FermionMapsModel") (T := F_Mo) (N := 25) hx hb ht0 i_Mo hown hK hP 0 rfl rfl 20 (by decide) (ht0 _ m_477) (fun _ h9 => h9) rfl d_Mo_findImage_38 ?_
        refine lv_sipush (v := 256) hx hb d_Mo_findImage_41 (by decide) ?_
        refine lv_iload_n hx hb d_Mo_findImage_44 rfl (lv_at hl 1 rfl) ?_
        refine lv_imul hx hb d_Mo_findImage_45 ?_
        refine lv_iload_n hx hb d_Mo_findImage_46 rfl (lv_at hl 2 rfl) ?_
        refine lv_iadd hx hb d_Mo_findImage_47 ?_
        refine lv_aload_n hx hb d_Mo_findImage_48 rfl (lv_at hl 0 rfl) ?_
        refine va_get (D := (dC, dI)) (ci := 4) (v := .ref a_matrix) (C := "FermionMapsModel") (T := F_Mo) (N := 25) hx hb ht0 i_Mo hown hK hP 0 rfl rfl 13 (by decide) (ht0 _ m_470) (fun _ h9 => h9) rfl d_Mo_findImage_49 ?_
        refine lv_sipush (v := 256) hx hb d_Mo_findImage_52 (by decide) ?_
        refine lv_aload_n hx hb d_Mo_findImage_55 rfl (lv_at hl 0 rfl) ?_
        refine va_get (D := (dC, dI)) (ci := 4) (v := .ref a_reads) (C := "FermionMapsModel") (T := F_Mo) (N := 25) hx hb ht0 i_Mo hown hK hP 0 rfl rfl 9 (by decide) (ht0 _ m_466) (fun _ h9 => h9) rfl d_Mo_findImage_56 ?_
        refine lv_iload_n hx hb d_Mo_findImage_59 rfl (lv_at hl 2 rfl) ?_
        refine lv_iload_n hx hb d_Mo_findImage_60 rfl (lv_at hl 1 rfl) ?_
        refine lv_ixor hx hb d_Mo_findImage_61 ?_
        refine lv_topi (fun t_23 e_t_23 => ?_)
        replace hf := nm_eq e_t_23 hf
        obtain ⟨hi_24, hf⟩ := ckI_ok hf
        refine va_iald hx hb hK hP 4 0 rfl rfl hi_24 d_Mo_findImage_62 ?_
        refine lv_imul hx hb d_Mo_findImage_63 ?_
        refine lv_aload_n hx hb d_Mo_findImage_64 rfl (lv_at hl 0 rfl) ?_
        refine va_get (D := (dC, dI)) (ci := 4) (v := .ref a_reads) (C := "FermionMapsModel") (T := F_Mo) (N := 25) hx hb ht0 i_Mo hown hK hP 0 rfl rfl 9 (by decide) (ht0 _ m_466) (fun _ h9 => h9) rfl d_Mo_findImage_65 ?_
        refine lv_iload_n hx hb d_Mo_findImage_68 rfl (lv_at hl 2 rfl) ?_
        obtain ⟨hi_25, hf⟩ := ckI_ok hf
        refine va_iald hx hb hK hP 4 0 rfl rfl hi_25 d_Mo_findImage_69 ?_
        refine lv_iadd hx hb d_Mo_findImage_70 ?_
        refine lv_topi (fun t_26 e_t_26 => ?_)
        replace hf := nm_eq e_t_26 hf
        obtain ⟨hi_27, hf⟩ := ckI_ok hf
        refine va_lald hx hb hK hP 5 1 rfl rfl hi_27 d_Mo_findImage_71 ?_
        refine lv_topl (fun t_28 e_t_28 => ?_)
        replace hf := nm_eq e_t_28 hf
        obtain ⟨hi_29, hf⟩ := ckI_ok hf
        refine va_last hx hb hK hP hD hS 6 1 rfl rfl hi_29 d_Mo_findImage_72 (fun H locs hP hD hS => ?_)
        have hP : va_P (dC, dI) cls [(a_p0, .inr (4, [.int thrown, .int modes, .int products, .ref a_upsOf, .ref a_downsOf, .ref a_numberOf, .int wayKind, .ref z_rowOf, .ref z_writes, .ref a_reads, .int isImageKnown, .int madeState, .int madeSign, .ref a_matrix, .ref z_other, .int newMany, .ref z_newUps, .ref z_newDowns, .ref z_newNumber, .ref z_found, .ref a_image, .ref a_imagePlace, .int imagePower, .int imageMany, .int imageWires])), (a_upsOf, .inl (cI, 60, .inl upsOf)), (a_downsOf, .inl (cI, 60, .inl downsOf)), (a_numberOf, .inl (cJ, 60, .inr (.inl numberOf))), (a_reads, .inl (cI, 256, .inl reads)), (a_matrix, .inl (cJ, 65536, .inr (.inl matrix))), (a_image, .inl (cJ, 65536, .inr (.inl (vp_updL image ((256 * x1) + x2).toNatClampNeg t_28)))), (a_imagePlace, .inl (cI, 65536, .inl imagePlace))] H := hP
        have hD : va_D A [(a_p0, .inr (4, [.int thrown, .int modes, .int products, .ref a_upsOf, .ref a_downsOf, .ref a_numberOf, .int wayKind, .ref z_rowOf, .ref z_writes, .ref a_reads, .int isImageKnown, .int madeState, .int madeSign, .ref a_matrix, .ref z_other, .int newMany, .ref z_newUps, .ref z_newDowns, .ref z_newNumber, .ref z_found, .ref a_image, .ref a_imagePlace, .int imagePower, .int imageMany, .int imageWires])), (a_upsOf, .inl (cI, 60, .inl upsOf)), (a_downsOf, .inl (cI, 60, .inl downsOf)), (a_numberOf, .inl (cJ, 60, .inr (.inl numberOf))), (a_reads, .inl (cI, 256, .inl reads)), (a_matrix, .inl (cJ, 65536, .inr (.inl matrix))), (a_image, .inl (cJ, 65536, .inr (.inl (vp_updL image ((256 * x1) + x2).toNatClampNeg t_28)))), (a_imagePlace, .inl (cI, 65536, .inl imagePlace))] := hD
        obtain ⟨x2_30, e_x2_30⟩ : ∃ y : Int32, y = x2 + 1 := ⟨_, rfl⟩
        replace hf := nm_eq e_x2_30 hf
        refine lv_iinc (v := x2_30) (lv' := [(2, .int x2_30), (0, .ref a_p0), (1, .int x1)]) hx hb d_Mo_findImage_73 hl (k := 2) rfl (by rw [e_x2_30]; rfl) (by decide) rfl (fun ls hl => ?_)
        refine lv_goto (tgt := 29) hx hb d_Mo_findImage_76 (by decide) ?_
        exact ih x1 x2_30 isImageKnown madeState madeSign imagePower imageMany imageWires matrix (vp_updL image ((256 * x1) + x2).toNatClampNeg t_28) imagePlace H locs ls hf hP hD hS (lv_sub hl [1, 2, 0] rfl)
  have B_19 : ∀ (n : Nat), ∀ (x1 : Int32) (isImageKnown : Int32) (madeState : Int32) (madeSign : Int32) (imagePower : Int32) (imageMany : Int32) (imageWires : Int32) (matrix : Nat → Int64) (image : Nat → Int64) (imagePlace : Nat → Int32) (H : Heap) (locs : List Loc) (ls : Array Slot), b_Mo_findImage_19 F modes products upsOf downsOf numberOf reads n x1 isImageKnown madeState madeSign imagePower imageMany imageWires matrix image imagePlace = some u → va_P (dC, dI) cls [(a_p0, .inr (4, [.int thrown, .int modes, .int products, .ref a_upsOf, .ref a_downsOf, .ref a_numberOf, .int wayKind, .ref z_rowOf, .ref z_writes, .ref a_reads, .int isImageKnown, .int madeState, .int madeSign, .ref a_matrix, .ref z_other, .int newMany, .ref z_newUps, .ref z_newDowns, .ref z_newNumber, .ref z_found, .ref a_image, .ref a_imagePlace, .int imagePower, .int imageMany, .int imageWires])), (a_upsOf, .inl (cI, 60, .inl upsOf)), (a_downsOf, .inl (cI, 60, .inl downsOf)), (a_numberOf, .inl (cJ, 60, .inr (.inl numberOf))), (a_reads, .inl (cI, 256, .inl reads)), (a_matrix, .inl (cJ, 65536, .inr (.inl matrix))), (a_image, .inl (cJ, 65536, .inr (.inl image))), (a_imagePlace, .inl (cI, 65536, .inl imagePlace))] H → va_D A [(a_p0, .inr (4, [.int thrown, .int modes, .int products, .ref a_upsOf, .ref a_downsOf, .ref a_numberOf, .int wayKind, .ref z_rowOf, .ref z_writes, .ref a_reads, .int isImageKnown, .int madeState, .int madeSign, .ref a_matrix, .ref z_other, .int newMany, .ref z_newUps, .ref z_newDowns, .ref z_newNumber, .ref z_found, .ref a_image, .ref a_imagePlace, .int imagePower, .int imageMany, .int imageWires])), (a_upsOf, .inl (cI, 60, .inl upsOf)), (a_downsOf, .inl (cI, 60, .inl downsOf)), (a_numberOf, .inl (cJ, 60, .inr (.inl numberOf))), (a_reads, .inl (cI, 256, .inl reads)), (a_matrix, .inl (cJ, 65536, .inr (.inl matrix))), (a_image, .inl (cJ, 65536, .inr (.inl image))), (a_imagePlace, .inl (cI, 65536, .inl imagePlace))] → va_S A s.heap H locs → lv_has ls 3 [(0, .ref a_p0), (1, .int x1)] → W p l e (headSpec (Cond.code y_Mo_findImage prog_6_method_31_code 3 none :: T0) rm_Mo_findImage).room s m ([.ref a_p0] : List Value).toArray below meth c H locs 0 0 Q (F0 m 19 ls []) := by
    intro n
    induction n with
    | zero =>
      intro x1 isImageKnown madeState madeSign imagePower imageMany imageWires matrix image imagePlace H locs ls hf hP hD hS hl
      exact no_fuel hf
    | succ n ih =>
      intro x1 isImageKnown madeState madeSign imagePower imageMany imageWires matrix image imagePlace H locs ls hf hP hD hS hl
      rw [b_Mo_findImage_19] at hf
      refine lv_iload_n hx hb d_Mo_findImage_19 rfl (lv_at hl 1 rfl) ?_
      refine lv_aload_n hx hb d_Mo_findImage_20 rfl (lv_at hl 0 rfl) ?_
      obtain ⟨u_3, h_u_3, hf⟩ := bd hf
      refine rd_i (rdV_run (As := []) (rest := [.int x1]) ⟨hx, hb, hml, hown, ht0⟩ (c_Mo_states l dC dI cI cJ a_p0 a_upsOf a_downsOf a_numberOf z_rowOf z_writes a_reads a_matrix z_other z_newUps z_newDowns z_newNumber z_found a_image a_imagePlace thrown modes products wayKind isImageKnown madeState madeSign newMany imagePower imageMany imageWires F u_3 h_u_3) (cwV 0 ht0 (gV m_442 m_444 (T0_pr (y := ⟨"FermionMapsModel", "states", "()I"⟩) (i := 4) rfl rfl) m_5 m_445) rfl rfl rfl (by decide +kernel) ⟨Nat.le_of_ble_eq_true rfl, Nat.le_of_ble_eq_true rfl⟩) hK hNW hP [0] rfl (ci := 4) (q0 := 0) rfl rfl rfl hl.1 rfl (Nat.le_of_ble_eq_true rfl) d_Mo_findImage_21 ⟨Nat.zero_le _, Nat.zero_le _⟩) ?_
      refine lv_icmp_ge (tgt := 94) hx hb d_Mo_findImage_24 (by decide) (fun c_4 => ?_) (fun c_4 => ?_)
      · replace hf := if_t c_4 hf
        refine lv_aload_n hx hb d_Mo_findImage_94 rfl (lv_at hl 0 rfl) ?_
        obtain ⟨u_5, h_u_5, hf⟩ := bd hf
        refine wr_v (wr := [(a_upsOf, .inl (cI, 60, .inl upsOf)), (a_downsOf, .inl (cI, 60, .inl downsOf)), (a_numberOf, .inl (cJ, 60, .inr (.inl numberOf))), (a_reads, .inl (cI, 256, .inl reads)), (a_matrix, .inl (cJ, 65536, .inr (.inl matrix)))]) (wrV_run (As := []) (rest := []) ⟨hx, hb, hml, hown, ht0⟩ (c_Mo_listImage l dC dI cI cJ a_p0 a_image a_imagePlace a_upsOf a_downsOf a_numberOf z_rowOf z_writes a_reads a_matrix z_other z_newUps z_newDowns z_newNumber z_found H.size thrown modes products wayKind isImageKnown madeState madeSign newMany imagePower imageMany imageWires image imagePlace F u_5 h_u_5) (cwV 0 ht0 (gV m_627 m_629 (T0_pr (y := ⟨"FermionMapsModel", "listImage", "()V"⟩) (i := 18) rfl rfl) m_5 m_630) rfl rfl rfl (by decide +kernel) ⟨Nat.le_of_ble_eq_true rfl, Nat.le_of_ble_eq_true rfl⟩) hK hNW hP hD [0, 6, 7] rfl rfl (by decide) (ci := 4) (q0 := 0) rfl rfl rfl hl.1 rfl (Nat.le_of_ble_eq_true rfl) d_Mo_findImage_95 ⟨Nat.zero_le _, Nat.zero_le _⟩) hP hD hS hA [0, 6, 7] [1, 2, 3, 4, 5] rfl rfl (by decide) (by decide) (fun w1 H locs hw hP hD hS => ?_)
        obtain rfl := hw
        have hP : va_P (dC, dI) cls [(a_p0, .inr (4, [.int thrown, .int modes, .int products, .ref a_upsOf, .ref a_downsOf, .ref a_numberOf, .int wayKind, .ref z_rowOf, .ref z_writes, .ref a_reads, .int isImageKnown, .int madeState, .int madeSign, .ref a_matrix, .ref z_other, .int newMany, .ref z_newUps, .ref z_newDowns, .ref z_newNumber, .ref z_found, .ref a_image, .ref a_imagePlace, .int imagePower, .int u_5.1, .int u_5.2.1])), (a_upsOf, .inl (cI, 60, .inl upsOf)), (a_downsOf, .inl (cI, 60, .inl downsOf)), (a_numberOf, .inl (cJ, 60, .inr (.inl numberOf))), (a_reads, .inl (cI, 256, .inl reads)), (a_matrix, .inl (cJ, 65536, .inr (.inl matrix))), (a_image, .inl (cJ, 65536, .inr (.inl image))), (a_imagePlace, .inl (cI, 65536, .inl u_5.2.2))] H := hP.sub [5, 0, 1, 2, 3, 4, 6, 7] rfl
        have hD : va_D A [(a_p0, .inr (4, [.int thrown, .int modes, .int products, .ref a_upsOf, .ref a_downsOf, .ref a_numberOf, .int wayKind, .ref z_rowOf, .ref z_writes, .ref a_reads, .int isImageKnown, .int madeState, .int madeSign, .ref a_matrix, .ref z_other, .int newMany, .ref z_newUps, .ref z_newDowns, .ref z_newNumber, .ref z_found, .ref a_image, .ref a_imagePlace, .int imagePower, .int u_5.1, .int u_5.2.1])), (a_upsOf, .inl (cI, 60, .inl upsOf)), (a_downsOf, .inl (cI, 60, .inl downsOf)), (a_numberOf, .inl (cJ, 60, .inr (.inl numberOf))), (a_reads, .inl (cI, 256, .inl reads)), (a_matrix, .inl (cJ, 65536, .inr (.inl matrix))), (a_image, .inl (cJ, 65536, .inr (.inl image))), (a_imagePlace, .inl (cI, 65536, .inl u_5.2.2))] := hD.sub [5, 0, 1, 2, 3, 4, 6, 7] (by decide) rfl
        refine lv_aload_n hx hb d_Mo_findImage_98 rfl (lv_at hl 0 rfl) ?_
        refine lv_aload_n hx hb d_Mo_findImage_99 rfl (lv_at hl 0 rfl) ?_
        refine va_get (D := (dC, dI)) (ci := 4) (v := .int modes) (C := "FermionMapsModel") (T := F_Mo) (N := 25) hx hb ht0 i_Mo hown hK hP 0 rfl rfl 1 (by decide) (ht0 _ m_458) (fun _ h9 => h9) rfl d_Mo_findImage_100 ?_
        refine va_put (D := (dC, dI)) (ci := 4) (v := .int modes) (ty := .int) (C := "FermionMapsModel") (T := F_Mo) (N := 25) hx hb ht0 i_Mo t_Mo t_Mo_ok n_Mo hown hK hP hD hS 0 rfl rfl 22 (by decide) (ht0 _ m_479) (fun _ h9 => h9) rfl (by decide +kernel) rfl rfl (Nat.le_of_ble_eq_true rfl) d_Mo_findImage_103 (fun H locs hP hD hS => ?_)
        have hP : va_P (dC, dI) cls [(a_p0, .inr (4, [.int thrown, .int modes, .int products, .ref a_upsOf, .ref a_downsOf, .ref a_numberOf, .int wayKind, .ref z_rowOf, .ref z_writes, .ref a_reads, .int isImageKnown, .int madeState, .int madeSign, .ref a_matrix, .ref z_other, .int newMany, .ref z_newUps, .ref z_newDowns, .ref z_newNumber, .ref z_found, .ref a_image, .ref a_imagePlace, .int modes, .int u_5.1, .int u_5.2.1])), (a_upsOf, .inl (cI, 60, .inl upsOf)), (a_downsOf, .inl (cI, 60, .inl downsOf)), (a_numberOf, .inl (cJ, 60, .inr (.inl numberOf))), (a_reads, .inl (cI, 256, .inl reads)), (a_matrix, .inl (cJ, 65536, .inr (.inl matrix))), (a_image, .inl (cJ, 65536, .inr (.inl image))), (a_imagePlace, .inl (cI, 65536, .inl u_5.2.2))] H := hP
        have hD : va_D A [(a_p0, .inr (4, [.int thrown, .int modes, .int products, .ref a_upsOf, .ref a_downsOf, .ref a_numberOf, .int wayKind, .ref z_rowOf, .ref z_writes, .ref a_reads, .int isImageKnown, .int madeState, .int madeSign, .ref a_matrix, .ref z_other, .int newMany, .ref z_newUps, .ref z_newDowns, .ref z_newNumber, .ref z_found, .ref a_image, .ref a_imagePlace, .int modes, .int u_5.1, .int u_5.2.1])), (a_upsOf, .inl (cI, 60, .inl upsOf)), (a_downsOf, .inl (cI, 60, .inl downsOf)), (a_numberOf, .inl (cJ, 60, .inr (.inl numberOf))), (a_reads, .inl (cI, 256, .inl reads)), (a_matrix, .inl (cJ, 65536, .inr (.inl matrix))), (a_image, .inl (cJ, 65536, .inr (.inl image))), (a_imagePlace, .inl (cI, 65536, .inl u_5.2.2))] := hD
        exact B_106 F isImageKnown madeState madeSign modes u_5.1 u_5.2.1 matrix image u_5.2.2 H locs ls hf hP hD hS (lv_sub hl [0] rfl)
      · replace hf := if_f c_4 hf
        refine lv_iconst (v := 0) hx hb d_Mo_findImage_27 (by decide) ?_
        refine lv_istore_n (lv' := [(2, .int 0), (0, .ref a_p0), (1, .int x1)]) hx hb d_Mo_findImage_28 rfl hl (by decide) rfl (fun ls hl => ?_)
        exact B_29 (b_Mo_findImage_19 F modes products upsOf downsOf numberOf reads n) ih F x1 0 isImageKnown madeState madeSign imagePower imageMany imageWires matrix image imagePlace H locs ls hf hP hD hS (lv_sub hl [1, 2, 0] rfl)
  rw [f_Mo_findImage] at hf
  refine lv_aload_n hx hb d_Mo_findImage_0 rfl (lv_at hl 0 rfl) ?_
  refine va_get (D := (dC, dI)) (ci := 4) (v := .int isImageKnown) (C := "FermionMapsModel") (T := F_Mo) (N := 25) hx hb ht0 i_Mo hown hK hP 0 rfl rfl 10 (by decide) (ht0 _ m_467) (fun _ h9 => h9) rfl d_Mo_findImage_1 ?_
  refine lv_if_eq (tgt := 8) hx hb d_Mo_findImage_4 (by decide) (fun c_1 => ?_) (fun c_1 => ?_)
  · replace hf := if_t c_1 hf
    refine lv_aload_n hx hb d_Mo_findImage_8 rfl (lv_at hl 0 rfl) ?_
    refine lv_iconst (v := 1) hx hb d_Mo_findImage_9 (by decide) ?_
    refine va_put (D := (dC, dI)) (ci := 4) (v := .int 1) (ty := .boolean) (C := "FermionMapsModel") (T := F_Mo) (N := 25) hx hb ht0 i_Mo t_Mo t_Mo_ok n_Mo hown hK hP hD hS 0 rfl rfl 10 (by decide) (ht0 _ m_467) (fun _ h9 => h9) rfl (by decide +kernel) rfl rfl (Nat.le_of_ble_eq_true rfl) d_Mo_findImage_10 (fun H locs hP hD hS => ?_)
    have hP : va_P (dC, dI) cls [(a_p0, .inr (4, [.int thrown, .int modes, .int products, .ref a_upsOf, .ref a_downsOf, .ref a_numberOf, .int wayKind, .ref z_rowOf, .ref z_writes, .ref a_reads, .int 1, .int madeState, .int madeSign, .ref a_matrix, .ref z_other, .int newMany, .ref z_newUps, .ref z_newDowns, .ref z_newNumber, .ref z_found, .ref a_image, .ref a_imagePlace, .int imagePower, .int imageMany, .int imageWires])), (a_upsOf, .inl (cI, 60, .inl upsOf)), (a_downsOf, .inl (cI, 60, .inl downsOf)), (a_numberOf, .inl (cJ, 60, .inr (.inl numberOf))), (a_reads, .inl (cI, 256, .inl reads)), (a_matrix, .inl (cJ, 65536, .inr (.inl matrix))), (a_image, .inl (cJ, 65536, .inr (.inl image))), (a_imagePlace, .inl (cI, 65536, .inl imagePlace))] H := hP
    have hD : va_D A [(a_p0, .inr (4, [.int thrown, .int modes, .int products, .ref a_upsOf, .ref a_downsOf, .ref a_numberOf, .int wayKind, .ref z_rowOf, .ref z_writes, .ref a_reads, .int 1, .int madeState, .int madeSign, .ref a_matrix, .ref z_other, .int newMany, .ref z_newUps, .ref z_newDowns, .ref z_newNumber, .ref z_found, .ref a_image, .ref a_imagePlace, .int imagePower, .int imageMany, .int imageWires])), (a_upsOf, .inl (cI, 60, .inl upsOf)), (a_downsOf, .inl (cI, 60, .inl downsOf)), (a_numberOf, .inl (cJ, 60, .inr (.inl numberOf))), (a_reads, .inl (cI, 256, .inl reads)), (a_matrix, .inl (cJ, 65536, .inr (.inl matrix))), (a_image, .inl (cJ, 65536, .inr (.inl image))), (a_imagePlace, .inl (cI, 65536, .inl imagePlace))] := hD
    refine lv_aload_n hx hb d_Mo_findImage_13 rfl (lv_at hl 0 rfl) ?_
    obtain ⟨u_2, h_u_2, hf⟩ := bd hf
    refine wr_v (wr := [(a_reads, .inl (cI, 256, .inl reads)), (a_image, .inl (cJ, 65536, .inr (.inl image))), (a_imagePlace, .inl (cI, 65536, .inl imagePlace))]) (wrV_run (As := []) (rest := []) ⟨hx, hb, hml, hown, ht0⟩ (c_Mo_fillMatrix l dC dI cI cJ a_p0 a_upsOf a_downsOf a_numberOf a_matrix z_rowOf z_writes a_reads z_other z_newUps z_newDowns z_newNumber z_found a_image a_imagePlace H.size thrown modes products wayKind 1 madeState madeSign newMany imagePower imageMany imageWires upsOf downsOf numberOf matrix F u_2 h_u_2) (cwV 0 ht0 (gV m_563 m_565 (T0_pr (y := ⟨"FermionMapsModel", "fillMatrix", "()V"⟩) (i := 10) rfl rfl) m_5 m_566) rfl rfl rfl (by decide +kernel) ⟨Nat.le_of_ble_eq_true rfl, Nat.le_of_ble_eq_true rfl⟩) hK hNW hP hD [0, 1, 2, 3, 5] rfl rfl (by decide) (ci := 4) (q0 := 0) rfl rfl rfl hl.1 rfl (Nat.le_of_ble_eq_true rfl) d_Mo_findImage_14 ⟨Nat.zero_le _, Nat.zero_le _⟩) hP hD hS hA [0, 1, 2, 3, 5] [4, 6, 7] rfl rfl (by decide) (by decide) (fun w1 H locs hw hP hD hS => ?_)
    obtain rfl := hw
    have hP : va_P (dC, dI) cls [(a_p0, .inr (4, [.int thrown, .int modes, .int products, .ref a_upsOf, .ref a_downsOf, .ref a_numberOf, .int wayKind, .ref z_rowOf, .ref z_writes, .ref a_reads, .int 1, .int u_2.1, .int u_2.2.1, .ref a_matrix, .ref z_other, .int newMany, .ref z_newUps, .ref z_newDowns, .ref z_newNumber, .ref z_found, .ref a_image, .ref a_imagePlace, .int imagePower, .int imageMany, .int imageWires])), (a_upsOf, .inl (cI, 60, .inl upsOf)), (a_downsOf, .inl (cI, 60, .inl downsOf)), (a_numberOf, .inl (cJ, 60, .inr (.inl numberOf))), (a_reads, .inl (cI, 256, .inl reads)), (a_matrix, .inl (cJ, 65536, .inr (.inl u_2.2.2))), (a_image, .inl (cJ, 65536, .inr (.inl image))), (a_imagePlace, .inl (cI, 65536, .inl imagePlace))] H := hP.sub [3, 4, 5, 6, 0, 7, 1, 2] rfl
    have hD : va_D A [(a_p0, .inr (4, [.int thrown, .int modes, .int products, .ref a_upsOf, .ref a_downsOf, .ref a_numberOf, .int wayKind, .ref z_rowOf, .ref z_writes, .ref a_reads, .int 1, .int u_2.1, .int u_2.2.1, .ref a_matrix, .ref z_other, .int newMany, .ref z_newUps, .ref z_newDowns, .ref z_newNumber, .ref z_found, .ref a_image, .ref a_imagePlace, .int imagePower, .int imageMany, .int imageWires])), (a_upsOf, .inl (cI, 60, .inl upsOf)), (a_downsOf, .inl (cI, 60, .inl downsOf)), (a_numberOf, .inl (cJ, 60, .inr (.inl numberOf))), (a_reads, .inl (cI, 256, .inl reads)), (a_matrix, .inl (cJ, 65536, .inr (.inl u_2.2.2))), (a_image, .inl (cJ, 65536, .inr (.inl image))), (a_imagePlace, .inl (cI, 65536, .inl imagePlace))] := hD.sub [3, 4, 5, 6, 0, 7, 1, 2] (by decide) rfl
    refine lv_iconst (v := 0) hx hb d_Mo_findImage_17 (by decide) ?_
    refine lv_istore_n (lv' := [(1, .int 0), (0, .ref a_p0)]) hx hb d_Mo_findImage_18 rfl hl (by decide) rfl (fun ls hl => ?_)
    exact B_19 F 0 1 u_2.1 u_2.2.1 imagePower imageMany imageWires u_2.2.2 image imagePlace H locs ls hf hP hD hS (lv_sub hl [1, 0] rfl)
  · replace hf := if_f c_1 hf
    have hu := Option.some.inj hf
    subst hu
    exact rw_v hQ rfl hP hD hK hS hx hb hr hlocks d_Mo_findImage_7

/-! FermionMapsModel.image(II)J -/
def b_Mo_image_41 (F : Nat) (modes : Int32) (products : Int32) (upsOf : Nat → Int32) (downsOf : Nat → Int32) (numberOf : Nat → Int64) (reads : Nat → Int32) (thrown : Int32) (isImageKnown : Int32) (madeState : Int32) (madeSign : Int32) (imagePower : Int32) (imageMany : Int32) (imageWires : Int32) (matrix : Nat → Int64) (image : Nat → Int64) (imagePlace : Nat → Int32) : Option (Int64 × Int32 × Int32 × Int32 × Int32 × Int32 × Int32 × Int32 × (Nat → Int64) × (Nat → Int64) × (Nat → Int32)) :=
  (f_Mo_raise F thrown).bind fun u_4 =>
  some ((u_4.1.toInt64), u_4.2, isImageKnown, madeState, madeSign, imagePower, imageMany, imageWires, matrix, image, imagePlace)
def f_Mo_image (F : Nat) (thrown : Int32) (modes : Int32) (products : Int32) (isImageKnown : Int32) (madeState : Int32) (madeSign : Int32) (imagePower : Int32) (imageMany : Int32) (imageWires : Int32) (upsOf : Nat → Int32) (downsOf : Nat → Int32) (numberOf : Nat → Int64) (reads : Nat → Int32) (matrix : Nat → Int64) (image : Nat → Int64) (imagePlace : Nat → Int32) (p1 : Int32) (p2 : Int32) : Option (Int64 × Int32 × Int32 × Int32 × Int32 × Int32 × Int32 × Int32 × (Nat → Int64) × (Nat → Int64) × (Nat → Int32)) :=
  (f_Mo_findImage F modes products isImageKnown madeState madeSign imagePower imageMany imageWires upsOf downsOf numberOf reads matrix image imagePlace).bind fun u_1 =>
  if p1 = (-1) then
    some ((u_1.2.2.2.2.1.toInt64), 0, u_1.1, u_1.2.1, u_1.2.2.1, u_1.2.2.2.1, u_1.2.2.2.2.1, u_1.2.2.2.2.2.1, u_1.2.2.2.2.2.2.1, u_1.2.2.2.2.2.2.2.1, u_1.2.2.2.2.2.2.2.2)
  else
    if p1 < 0 then
      b_Mo_image_41 F modes products upsOf downsOf numberOf reads 0 u_1.1 u_1.2.1 u_1.2.2.1 u_1.2.2.2.1 u_1.2.2.2.2.1 u_1.2.2.2.2.2.1 u_1.2.2.2.2.2.2.1 u_1.2.2.2.2.2.2.2.1 u_1.2.2.2.2.2.2.2.2
    else
      if u_1.2.2.2.2.1 ≤ p1 then
        b_Mo_image_41 F modes products upsOf downsOf numberOf reads 0 u_1.1 u_1.2.1 u_1.2.2.1 u_1.2.2.2.1 u_1.2.2.2.2.1 u_1.2.2.2.2.2.1 u_1.2.2.2.2.2.2.1 u_1.2.2.2.2.2.2.2.1 u_1.2.2.2.2.2.2.2.2
      else
        if p2 < 0 then
          b_Mo_image_41 F modes products upsOf downsOf numberOf reads 0 u_1.1 u_1.2.1 u_1.2.2.1 u_1.2.2.2.1 u_1.2.2.2.2.1 u_1.2.2.2.2.2.1 u_1.2.2.2.2.2.2.1 u_1.2.2.2.2.2.2.2.1 u_1.2.2.2.2.2.2.2.2
        else
          if p2 ≤ 3 then
            ckI p1 65536 <|
            nm ((u_1.2.2.2.2.2.2.2.2 p1.toNatClampNeg) : Int32) fun x3_9 =>
            if p2 = 0 then
              ckZ 256 <|
              some (((x3_9 / 256).toInt64), 0, u_1.1, u_1.2.1, u_1.2.2.1, u_1.2.2.2.1, u_1.2.2.2.2.1, u_1.2.2.2.2.2.1, u_1.2.2.2.2.2.2.1, u_1.2.2.2.2.2.2.2.1, u_1.2.2.2.2.2.2.2.2)
            else
              if p2 = 1 then
                ckZ 256 <|
                some (((x3_9 - x3_9 / 256 * 256).toInt64), 0, u_1.1, u_1.2.1, u_1.2.2.1, u_1.2.2.2.1, u_1.2.2.2.2.1, u_1.2.2.2.2.2.1, u_1.2.2.2.2.2.2.1, u_1.2.2.2.2.2.2.2.1, u_1.2.2.2.2.2.2.2.2)
              else
                if p2 = 2 then
                  ckI x3_9 65536 <|
                  some ((u_1.2.2.2.2.2.2.2.1 x3_9.toNatClampNeg), 0, u_1.1, u_1.2.1, u_1.2.2.1, u_1.2.2.2.1, u_1.2.2.2.2.1, u_1.2.2.2.2.2.1, u_1.2.2.2.2.2.2.1, u_1.2.2.2.2.2.2.2.1, u_1.2.2.2.2.2.2.2.2)
                else
                  some ((u_1.2.2.2.1.toInt64), 0, u_1.1, u_1.2.1, u_1.2.2.1, u_1.2.2.2.1, u_1.2.2.2.2.1, u_1.2.2.2.2.2.1, u_1.2.2.2.2.2.2.1, u_1.2.2.2.2.2.2.2.1, u_1.2.2.2.2.2.2.2.2)
          else
            b_Mo_image_41 F modes products upsOf downsOf numberOf reads 0 u_1.1 u_1.2.1 u_1.2.2.1 u_1.2.2.2.1 u_1.2.2.2.2.1 u_1.2.2.2.2.2.1 u_1.2.2.2.2.2.2.1 u_1.2.2.2.2.2.2.2.1 u_1.2.2.2.2.2.2.2.2
abbrev rm_Mo_image : Room := { frames := 5, cells := 0, slots := 0, locals := 113 }
set_option maxHeartbeats 4000000 in
set_option maxRecDepth 100000 in
theorem c_Mo_image (l : Launch) (dC : Nat → ClassId) (dI : Nat → Nat → Nat) (cI cJ : ClassId) (a_p0 a_upsOf a_downsOf a_numberOf a_reads a_matrix a_image a_imagePlace z_rowOf z_writes z_other z_newUps z_newDowns z_newNumber z_found : Nat) (sz : Nat) (thrown : Int32) (modes : Int32) (products : Int32) (wayKind : Int32) (isImageKnown : Int32) (madeState : Int32) (madeSign : Int32) (newMany : Int32) (imagePower : Int32) (imageMany : Int32) (imageWires : Int32) (upsOf : Nat → Int32) (downsOf : Nat → Int32) (numberOf : Nat → Int64) (reads : Nat → Int32) (matrix : Nat → Int64) (image : Nat → Int64) (imagePlace : Nat → Int32) (p1 : Int32) (p2 : Int32) (F : Nat) (u : Int64 × Int32 × Int32 × Int32 × Int32 × Int32 × Int32 × Int32 × (Nat → Int64) × (Nat → Int64) × (Nat → Int32)) (hf : f_Mo_image F thrown modes products isImageKnown madeState madeSign imagePower imageMany imageWires upsOf downsOf numberOf reads matrix image imagePlace p1 p2 = some u) : Met l y_Mo_image (Cond.code y_Mo_image prog_6_method_32_code 4 (some .long) :: T0) rm_Mo_image (va_Pc [.ref a_p0, .int p1, .int p2] (Ww (dC, dI) [(a_p0, .inr (4, [.int thrown, .int modes, .int products, .ref a_upsOf, .ref a_downsOf, .ref a_numberOf, .int wayKind, .ref z_rowOf, .ref z_writes, .ref a_reads, .int isImageKnown, .int madeState, .int madeSign, .ref a_matrix, .ref z_other, .int newMany, .ref z_newUps, .ref z_newDowns, .ref z_newNumber, .ref z_found, .ref a_image, .ref a_imagePlace, .int imagePower, .int imageMany, .int imageWires])), (a_upsOf, .inl (cI, 60, .inl upsOf)), (a_downsOf, .inl (cI, 60, .inl downsOf)), (a_numberOf, .inl (cJ, 60, .inr (.inl numberOf))), (a_reads, .inl (cI, 256, .inl reads)), (a_matrix, .inl (cJ, 65536, .inr (.inl matrix))), (a_image, .inl (cJ, 65536, .inr (.inl image))), (a_imagePlace, .inl (cI, 65536, .inl imagePlace))] [(cI, .int), (cJ, .long)] sz)) (va_Ql (fun r (_ : Unit) => r = u.1) (Bw (dC, dI) [(cI, .int), (cJ, .long)] (va_A [(a_p0, .inr (4, [.int thrown, .int modes, .int products, .ref a_upsOf, .ref a_downsOf, .ref a_numberOf, .int wayKind, .ref z_rowOf, .ref z_writes, .ref a_reads, .int isImageKnown, .int madeState, .int madeSign, .ref a_matrix, .ref z_other, .int newMany, .ref z_newUps, .ref z_newDowns, .ref z_newNumber, .ref z_found, .ref a_image, .ref a_imagePlace, .int imagePower, .int imageMany, .int imageWires])), (a_upsOf, .inl (cI, 60, .inl upsOf)), (a_downsOf, .inl (cI, 60, .inl downsOf)), (a_numberOf, .inl (cJ, 60, .inr (.inl numberOf))), (a_reads, .inl (cI, 256, .inl reads)), (a_matrix, .inl (cJ, 65536, .inr (.inl matrix))), (a_image, .inl (cJ, 65536, .inr (.inl image))), (a_imagePlace, .inl (cI, 65536, .inl imagePlace))] sz) (fun w1 => w1 = [(a_p0, .inr (4, [.int u.2.1, .int modes, .int products, .ref a_upsOf, .ref a_downsOf, .ref a_numberOf, .int wayKind, .ref z_rowOf, .ref z_writes, .ref a_reads, .int u.2.2.1, .int u.2.2.2.1, .int u.2.2.2.2.1, .ref a_matrix, .ref z_other, .int newMany, .ref z_newUps, .ref z_newDowns, .ref z_newNumber, .ref z_found, .ref a_image, .ref a_imagePlace, .int u.2.2.2.2.2.1, .int u.2.2.2.2.2.2.1, .int u.2.2.2.2.2.2.2.1])), (a_upsOf, .inl (cI, 60, .inl upsOf)), (a_downsOf, .inl (cI, 60, .inl downsOf)), (a_numberOf, .inl (cJ, 60, .inr (.inl numberOf))), (a_reads, .inl (cI, 256, .inl reads)), (a_matrix, .inl (cJ, 65536, .inr (.inl u.2.2.2.2.2.2.2.2.1))), (a_image, .inl (cJ, 65536, .inr (.inl u.2.2.2.2.2.2.2.2.2.1))), (a_imagePlace, .inl (cI, 65536, .inl u.2.2.2.2.2.2.2.2.2.2))])) (va_A [(a_p0, .inr (4, [.int thrown, .int modes, .int products, .ref a_upsOf, .ref a_downsOf, .ref a_numberOf, .int wayKind, .ref z_rowOf, .ref z_writes, .ref a_reads, .int isImageKnown, .int madeState, .int madeSign, .ref a_matrix, .ref z_other, .int newMany, .ref z_newUps, .ref z_newDowns, .ref z_newNumber, .ref z_found, .ref a_image, .ref a_imagePlace, .int imagePower, .int imageMany, .int imageWires])), (a_upsOf, .inl (cI, 60, .inl upsOf)), (a_downsOf, .inl (cI, 60, .inl downsOf)), (a_numberOf, .inl (cJ, 60, .inr (.inl numberOf))), (a_reads, .inl (cI, 256, .inl reads)), (a_matrix, .inl (cJ, 65536, .inr (.inl matrix))), (a_image, .inl (cJ, 65536, .inr (.inl image))), (a_imagePlace, .inl (cI, 65536, .inl imagePlace))] sz)) 0 0 (va_A [(a_p0, .inr (4, [.int thrown, .int modes, .int products, .ref a_upsOf, .ref a_downsOf, .ref a_numberOf, .int wayKind, .ref z_rowOf, .ref z_writes, .ref a_reads, .int isImageKnown, .int madeState, .int madeSign, .ref a_matrix, .ref z_other, .int newMany, .ref z_newUps, .ref z_newDowns, .ref z_newNumber, .ref z_found, .ref a_image, .ref a_imagePlace, .int imagePower, .int imageMany, .int imageWires])), (a_upsOf, .inl (cI, 60, .inl upsOf)), (a_downsOf, .inl (cI, 60, .inl downsOf)), (a_numberOf, .inl (cJ, 60, .inr (.inl numberOf))), (a_reads, .inl (cI, 256, .inl reads)), (a_matrix, .inl (cJ, 65536, .inr (.inl matrix))), (a_image, .inl (cJ, 65536, .inr (.inl image))), (a_imagePlace, .inl (cI, 65536, .inl imagePlace))] sz) := by
  refine Met.ofW (cc := prog_6_method_32_code) (maxL := 4) (ret := (some .long)) (by decide) rfl ?_
  intro p e s m args below meth c s₁ B hml hv
  obtain ⟨rfl, hsz, hP, hK, hD0, hNW⟩ := hv
  have hx := B.exec
  have hb := B.bytes
  have hr := B.returns
  have hts := atoms_spec (ws := Cond.code y_Mo_image prog_6_method_32_code 4 (some .long) :: T0) B.pre
  have ht0 : ∀ w ∈ T0, w.before ([.ref a_p0, .int p1, .int p2] : List Value).toArray s = true := fun w h => hts w (List.mem_cons_of_mem _ h)
  have hown : s.vm.findClass "FermionMapsModel" = some m.cls := findClass_of_methodNamed B.named
  have hlocks := B.notSynchronized
  subst hsz
  have hD := hD0.self (sz := s.heap.size)
  generalize hAe : va_A [(a_p0, .inr (4, [.int thrown, .int modes, .int products, .ref a_upsOf, .ref a_downsOf, .ref a_numberOf, .int wayKind, .ref z_rowOf, .ref z_writes, .ref a_reads, .int isImageKnown, .int madeState, .int madeSign, .ref a_matrix, .ref z_other, .int newMany, .ref z_newUps, .ref z_newDowns, .ref z_newNumber, .ref z_found, .ref a_image, .ref a_imagePlace, .int imagePower, .int imageMany, .int imageWires])), (a_upsOf, .inl (cI, 60, .inl upsOf)), (a_downsOf, .inl (cI, 60, .inl downsOf)), (a_numberOf, .inl (cJ, 60, .inr (.inl numberOf))), (a_reads, .inl (cI, 256, .inl reads)), (a_matrix, .inl (cJ, 65536, .inr (.inl matrix))), (a_image, .inl (cJ, 65536, .inr (.inl image))), (a_imagePlace, .inl (cI, 65536, .inl imagePlace))] s.heap.size = A at hD ⊢
  have hA : ∀ q : Nat, s.heap.size ≤ q → A q := fun q h => by rw [← hAe]; exact Or.inr h
  have hS : va_S A s.heap s.heap [] := va_S.rf
  have hl := lv_entry ([.ref a_p0, .int p1, .int p2]) (n := 4) (Nat.le_of_ble_eq_true rfl)
  rw [lg_entry_eq]
  generalize (lg_sl ([.ref a_p0, .int p1, .int p2]) ++ List.replicate (4 - (lg_sl ([.ref a_p0, .int p1, .int p2])).length) Slot.unset).toArray = ls at hl ⊢
  have hl : lv_has ls 4 [(0, .ref a_p0), (1, .int p1), (2, .int p2)] := hl
  refine W.nameQ (fun Q hQ => ?_)
  have B_41 : ∀ (thrown : Int32) (isImageKnown : Int32) (madeState : Int32) (madeSign : Int32) (imagePower : Int32) (imageMany : Int32) (imageWires : Int32) (matrix : Nat → Int64) (image : Nat → Int64) (imagePlace : Nat → Int32) (H : Heap) (locs : List Loc) (ls : Array Slot), b_Mo_image_41 F modes products upsOf downsOf numberOf reads thrown isImageKnown madeState madeSign imagePower imageMany imageWires matrix image imagePlace = some u → va_P (dC, dI) cls [(a_p0, .inr (4, [.int thrown, .int modes, .int products, .ref a_upsOf, .ref a_downsOf, .ref a_numberOf, .int wayKind, .ref z_rowOf, .ref z_writes, .ref a_reads, .int isImageKnown, .int madeState, .int madeSign, .ref a_matrix, .ref z_other, .int newMany, .ref z_newUps, .ref z_newDowns, .ref z_newNumber, .ref z_found, .ref a_image, .ref a_imagePlace, .int imagePower, .int imageMany, .int imageWires])), (a_upsOf, .inl (cI, 60, .inl upsOf)), (a_downsOf, .inl (cI, 60, .inl downsOf)), (a_numberOf, .inl (cJ, 60, .inr (.inl numberOf))), (a_reads, .inl (cI, 256, .inl reads)), (a_matrix, .inl (cJ, 65536, .inr (.inl matrix))), (a_image, .inl (cJ, 65536, .inr (.inl image))), (a_imagePlace, .inl (cI, 65536, .inl imagePlace))] H → va_D A [(a_p0, .inr (4, [.int thrown, .int modes, .int products, .ref a_upsOf, .ref a_downsOf, .ref a_numberOf, .int wayKind, .ref z_rowOf, .ref z_writes, .ref a_reads, .int isImageKnown, .int madeState, .int madeSign, .ref a_matrix, .ref z_other, .int newMany, .ref z_newUps, .ref z_newDowns, .ref z_newNumber, .ref z_found, .ref a_image, .ref a_imagePlace, .int imagePower, .int imageMany, .int imageWires])), (a_upsOf, .inl (cI, 60, .inl upsOf)), (a_downsOf, .inl (cI, 60, .inl downsOf)), (a_numberOf, .inl (cJ, 60, .inr (.inl numberOf))), (a_reads, .inl (cI, 256, .inl reads)), (a_matrix, .inl (cJ, 65536, .inr (.inl matrix))), (a_image, .inl (cJ, 65536, .inr (.inl image))), (a_imagePlace, .inl (cI, 65536, .inl imagePlace))] → va_S A s.heap H locs → lv_has ls 4 [(0, .ref a_p0)] → W p l e (headSpec (Cond.code y_Mo_image prog_6_method_32_code 4 (some .long) :: T0) rm_Mo_image).room s m ([.ref a_p0, .int p1, .int p2] : List Value).toArray below meth c H locs 0 0 Q (F0 m 41 ls []) := by
    intro thrown isImageKnown madeState madeSign imagePower imageMany imageWires matrix image imagePlace H locs ls hf hP hD hS hl
    rw [b_Mo_image_41] at hf
    refine lv_aload_n hx hb d_Mo_image_41 rfl (lv_at hl 0 rfl) ?_
    obtain ⟨u_4, h_u_4, hf⟩ := bd hf
    refine wr_i (wr := [(a_upsOf, .inl (cI, 60, .inl upsOf)), (a_downsOf, .inl (cI, 60, .inl downsOf)), (a_numberOf, .inl (cJ, 60, .inr (.inl numberOf))), (a_reads, .inl (cI, 256, .inl reads)), (a_matrix, .inl (cJ, 65536, .inr (.inl matrix))), (a_image, .inl (cJ, 65536, .inr (.inl image))), (a_imagePlace, .inl (cI, 65536, .inl imagePlace))]) (wrV_run (As := []) (rest := []) ⟨hx, hb, hml, hown, ht0⟩ (c_Mo_raise l dC dI cI cJ a_p0 a_upsOf a_downsOf a_numberOf z_rowOf z_writes a_reads a_matrix z_other z_newUps z_newDowns z_newNumber z_found a_image a_imagePlace H.size thrown modes products wayKind isImageKnown madeState madeSign newMany imagePower imageMany imageWires F u_4 h_u_4) (cwV 0 ht0 (gV m_591 m_593 (T0_pr (y := ⟨"FermionMapsModel", "raise", "()I"⟩) (i := 15) rfl rfl) m_5 m_594) rfl rfl rfl (by decide +kernel) ⟨Nat.le_of_ble_eq_true rfl, Nat.le_of_ble_eq_true rfl⟩) hK hNW hP hD [0] rfl rfl (by decide) (ci := 4) (q0 := 0) rfl rfl rfl hl.1 rfl (Nat.le_of_ble_eq_true rfl) d_Mo_image_42 ⟨Nat.zero_le _, Nat.zero_le _⟩) hP hD hS hA [0] [1, 2, 3, 4, 5, 6, 7] rfl rfl (by decide) (by decide) (fun w1 H locs hw hP hD hS => ?_)
    obtain rfl := hw
    have hP : va_P (dC, dI) cls [(a_p0, .inr (4, [.int u_4.2, .int modes, .int products, .ref a_upsOf, .ref a_downsOf, .ref a_numberOf, .int wayKind, .ref z_rowOf, .ref z_writes, .ref a_reads, .int isImageKnown, .int madeState, .int madeSign, .ref a_matrix, .ref z_other, .int newMany, .ref z_newUps, .ref z_newDowns, .ref z_newNumber, .ref z_found, .ref a_image, .ref a_imagePlace, .int imagePower, .int imageMany, .int imageWires])), (a_upsOf, .inl (cI, 60, .inl upsOf)), (a_downsOf, .inl (cI, 60, .inl downsOf)), (a_numberOf, .inl (cJ, 60, .inr (.inl numberOf))), (a_reads, .inl (cI, 256, .inl reads)), (a_matrix, .inl (cJ, 65536, .inr (.inl matrix))), (a_image, .inl (cJ, 65536, .inr (.inl image))), (a_imagePlace, .inl (cI, 65536, .inl imagePlace))] H := hP.sub [7, 0, 1, 2, 3, 4, 5, 6] rfl
    have hD : va_D A [(a_p0, .inr (4, [.int u_4.2, .int modes, .int products, .ref a_upsOf, .ref a_downsOf, .ref a_numberOf, .int wayKind, .ref z_rowOf, .ref z_writes, .ref a_reads, .int isImageKnown, .int madeState, .int madeSign, .ref a_matrix, .ref z_other, .int newMany, .ref z_newUps, .ref z_newDowns, .ref z_newNumber, .ref z_found, .ref a_image, .ref a_imagePlace, .int imagePower, .int imageMany, .int imageWires])), (a_upsOf, .inl (cI, 60, .inl upsOf)), (a_downsOf, .inl (cI, 60, .inl downsOf)), (a_numberOf, .inl (cJ, 60, .inr (.inl numberOf))), (a_reads, .inl (cI, 256, .inl reads)), (a_matrix, .inl (cJ, 65536, .inr (.inl matrix))), (a_image, .inl (cJ, 65536, .inr (.inl image))), (a_imagePlace, .inl (cI, 65536, .inl imagePlace))] := hD.sub [7, 0, 1, 2, 3, 4, 5, 6] (by decide) rfl
    refine lv_i2l (v := u_4.1.toInt64) hx hb d_Mo_image_45 rfl ?_
    have hu := Option.some.inj hf
    subst hu
    exact rw_l hQ rfl rfl hP hD hK hS hx hb hr hlocks d_Mo_image_46
  rw [f_Mo_image] at hf
  refine lv_aload_n hx hb d_Mo_image_0 rfl (lv_at hl 0 rfl) ?_
  refine lv_iconst (v := 0) hx hb d_Mo_image_1 (by decide) ?_
  refine va_put (D := (dC, dI)) (ci := 4) (v := .int 0) (ty := .int) (C := "FermionMapsModel") (T := F_Mo) (N := 25) hx hb ht0 i_Mo t_Mo t_Mo_ok n_Mo hown hK hP hD hS 0 rfl rfl 0 (by decide) (ht0 _ m_457) (fun _ h9 => h9) rfl (by decide +kernel) rfl rfl (Nat.le_of_ble_eq_true rfl) d_Mo_image_2 (fun H locs hP hD hS => ?_)
  have hP : va_P (dC, dI) cls [(a_p0, .inr (4, [.int 0, .int modes, .int products, .ref a_upsOf, .ref a_downsOf, .ref a_numberOf, .int wayKind, .ref z_rowOf, .ref z_writes, .ref a_reads, .int isImageKnown, .int madeState, .int madeSign, .ref a_matrix, .ref z_other, .int newMany, .ref z_newUps, .ref z_newDowns, .ref z_newNumber, .ref z_found, .ref a_image, .ref a_imagePlace, .int imagePower, .int imageMany, .int imageWires])), (a_upsOf, .inl (cI, 60, .inl upsOf)), (a_downsOf, .inl (cI, 60, .inl downsOf)), (a_numberOf, .inl (cJ, 60, .inr (.inl numberOf))), (a_reads, .inl (cI, 256, .inl reads)), (a_matrix, .inl (cJ, 65536, .inr (.inl matrix))), (a_image, .inl (cJ, 65536, .inr (.inl image))), (a_imagePlace, .inl (cI, 65536, .inl imagePlace))] H := hP
  have hD : va_D A [(a_p0, .inr (4, [.int 0, .int modes, .int products, .ref a_upsOf, .ref a_downsOf, .ref a_numberOf, .int wayKind, .ref z_rowOf, .ref z_writes, .ref a_reads, .int isImageKnown, .int madeState, .int madeSign, .ref a_matrix, .ref z_other, .int newMany, .ref z_newUps, .ref z_newDowns, .ref z_newNumber, .ref z_found, .ref a_image, .ref a_imagePlace, .int imagePower, .int imageMany, .int imageWires])), (a_upsOf, .inl (cI, 60, .inl upsOf)), (a_downsOf, .inl (cI, 60, .inl downsOf)), (a_numberOf, .inl (cJ, 60, .inr (.inl numberOf))), (a_reads, .inl (cI, 256, .inl reads)), (a_matrix, .inl (cJ, 65536, .inr (.inl matrix))), (a_image, .inl (cJ, 65536, .inr (.inl image))), (a_imagePlace, .inl (cI, 65536, .inl imagePlace))] := hD
  refine lv_aload_n hx hb d_Mo_image_5 rfl (lv_at hl 0 rfl) ?_
  obtain ⟨u_1, h_u_1, hf⟩ := bd hf
  refine wr_v (wr := []) (wrV_run (As := []) (rest := []) ⟨hx, hb, hml, hown, ht0⟩ (c_Mo_findImage l dC dI cI cJ a_p0 a_upsOf a_downsOf a_numberOf a_reads a_matrix a_image a_imagePlace z_rowOf z_writes z_other z_newUps z_newDowns z_newNumber z_found H.size 0 modes products wayKind isImageKnown madeState madeSign newMany imagePower imageMany imageWires upsOf downsOf numberOf reads matrix image imagePlace F u_1 h_u_1) (cwV 0 ht0 (gV m_619 m_621 (T0_pr (y := ⟨"FermionMapsModel", "findImage", "()V"⟩) (i := 16) rfl rfl) m_5 m_622) rfl rfl rfl (by decide +kernel) ⟨Nat.le_of_ble_eq_true rfl, Nat.le_of_ble_eq_true rfl⟩) hK hNW hP hD [0, 1, 2, 3, 4, 5, 6, 7] rfl rfl (by decide) (ci := 4) (q0 := 0) rfl rfl rfl hl.1 rfl (Nat.le_of_ble_eq_true rfl) d_Mo_image_6 ⟨Nat.zero_le _, Nat.zero_le _⟩) hP hD hS hA [0, 1, 2, 3, 4, 5, 6, 7] [] rfl rfl (by decide) (by decide) (fun w1 H locs hw hP hD hS => ?_)
  obtain rfl := hw
  have hP : va_P (dC, dI) cls [(a_p0, .inr (4, [.int 0, .int modes, .int products, .ref a_upsOf, .ref a_downsOf, .ref a_numberOf, .int wayKind, .ref z_rowOf, .ref z_writes, .ref a_reads, .int u_1.1, .int u_1.2.1, .int u_1.2.2.1, .ref a_matrix, .ref z_other, .int newMany, .ref z_newUps, .ref z_newDowns, .ref z_newNumber, .ref z_found, .ref a_image, .ref a_imagePlace, .int u_1.2.2.2.1, .int u_1.2.2.2.2.1, .int u_1.2.2.2.2.2.1])), (a_upsOf, .inl (cI, 60, .inl upsOf)), (a_downsOf, .inl (cI, 60, .inl downsOf)), (a_numberOf, .inl (cJ, 60, .inr (.inl numberOf))), (a_reads, .inl (cI, 256, .inl reads)), (a_matrix, .inl (cJ, 65536, .inr (.inl u_1.2.2.2.2.2.2.1))), (a_image, .inl (cJ, 65536, .inr (.inl u_1.2.2.2.2.2.2.2.1))), (a_imagePlace, .inl (cI, 65536, .inl u_1.2.2.2.2.2.2.2.2))] H := hP.sub [0, 1, 2, 3, 4, 5, 6, 7] rfl
  have hD : va_D A [(a_p0, .inr (4, [.int 0, .int modes, .int products, .ref a_upsOf, .ref a_downsOf, .ref a_numberOf, .int wayKind, .ref z_rowOf, .ref z_writes, .ref a_reads, .int u_1.1, .int u_1.2.1, .int u_1.2.2.1, .ref a_matrix, .ref z_other, .int newMany, .ref z_newUps, .ref z_newDowns, .ref z_newNumber, .ref z_found, .ref a_image, .ref a_imagePlace, .int u_1.2.2.2.1, .int u_1.2.2.2.2.1, .int u_1.2.2.2.2.2.1])), (a_upsOf, .inl (cI, 60, .inl upsOf)), (a_downsOf, .inl (cI, 60, .inl downsOf)), (a_numberOf, .inl (cJ, 60, .inr (.inl numberOf))), (a_reads, .inl (cI, 256, .inl reads)), (a_matrix, .inl (cJ, 65536, .inr (.inl u_1.2.2.2.2.2.2.1))), (a_image, .inl (cJ, 65536, .inr (.inl u_1.2.2.2.2.2.2.2.1))), (a_imagePlace, .inl (cI, 65536, .inl u_1.2.2.2.2.2.2.2.2))] := hD.sub [0, 1, 2, 3, 4, 5, 6, 7] (by decide) rfl
  refine lv_iload_n hx hb d_Mo_image_9 rfl (lv_at hl 1 rfl) ?_
  refine lv_iconst (v := (-1)) hx hb d_Mo_image_10 (by decide) ?_
  refine lv_icmp_ne (tgt := 20) hx hb d_Mo_image_11 (by decide) (fun c_2 => ?_) (fun c_2 => ?_)
  · replace hf := if_f c_2 hf
    refine lv_iload_n hx hb d_Mo_image_20 rfl (lv_at hl 1 rfl) ?_
    refine lv_if_lt (tgt := 41) hx hb d_Mo_image_21 (by decide) (fun c_3 => ?_) (fun c_3 => ?_)
    · replace hf := if_t c_3 hf
      exact B_41 0 u_1.1 u_1.2.1 u_1.2.2.1 u_1.2.2.2.1 u_1.2.2.2.2.1 u_1.2.2.2.2.2.1 u_1.2.2.2.2.2.2.1 u_1.2.2.2.2.2.2.2.1 u_1.2.2.2.2.2.2.2.2 H locs ls hf hP hD hS (lv_sub hl [0] rfl)
    · replace hf := if_f c_3 hf
      refine lv_iload_n hx hb d_Mo_image_24 rfl (lv_at hl 1 rfl) ?_
      refine lv_aload_n hx hb d_Mo_image_25 rfl (lv_at hl 0 rfl) ?_
      refine va_get (D := (dC, dI)) (ci := 4) (v := .int u_1.2.2.2.2.1) (C := "FermionMapsModel") (T := F_Mo) (N := 25) hx hb ht0 i_Mo hown hK hP 0 rfl rfl 23 (by decide) (ht0 _ m_480) (fun _ h9 => h9) rfl d_Mo_image_26 ?_
      refine lv_icmp_ge (tgt := 41) hx hb d_Mo_image_29 (by decide) (fun c_5 => ?_) (fun c_5 => ?_)
      · replace hf := if_t c_5 hf
        exact B_41 0 u_1.1 u_1.2.1 u_1.2.2.1 u_1.2.2.2.1 u_1.2.2.2.2.1 u_1.2.2.2.2.2.1 u_1.2.2.2.2.2.2.1 u_1.2.2.2.2.2.2.2.1 u_1.2.2.2.2.2.2.2.2 H locs ls hf hP hD hS (lv_sub hl [0] rfl)
      · replace hf := if_f c_5 hf
        refine lv_iload_n hx hb d_Mo_image_32 rfl (lv_at hl 2 rfl) ?_
        refine lv_if_lt (tgt := 41) hx hb d_Mo_image_33 (by decide) (fun c_6 => ?_) (fun c_6 => ?_)
        · replace hf := if_t c_6 hf
          exact B_41 0 u_1.1 u_1.2.1 u_1.2.2.1 u_1.2.2.2.1 u_1.2.2.2.2.1 u_1.2.2.2.2.2.1 u_1.2.2.2.2.2.2.1 u_1.2.2.2.2.2.2.2.1 u_1.2.2.2.2.2.2.2.2 H locs ls hf hP hD hS (lv_sub hl [0] rfl)
        · replace hf := if_f c_6 hf
          refine lv_iload_n hx hb d_Mo_image_36 rfl (lv_at hl 2 rfl) ?_
          refine lv_iconst (v := 3) hx hb d_Mo_image_37 (by decide) ?_
          refine lv_icmp_le (tgt := 47) hx hb d_Mo_image_38 (by decide) (fun c_7 => ?_) (fun c_7 => ?_)
          · replace hf := if_t c_7 hf
            refine lv_aload_n hx hb d_Mo_image_47 rfl (lv_at hl 0 rfl) ?_
            refine va_get (D := (dC, dI)) (ci := 4) (v := .ref a_imagePlace) (C := "FermionMapsModel") (T := F_Mo) (N := 25) hx hb ht0 i_Mo hown hK hP 0 rfl rfl 21 (by decide) (ht0 _ m_478) (fun _ h9 => h9) rfl d_Mo_image_48 ?_
            refine lv_iload_n hx hb d_Mo_image_51 rfl (lv_at hl 1 rfl) ?_
            obtain ⟨hi_8, hf⟩ := ckI_ok hf
            refine va_iald hx hb hK hP 7 0 rfl rfl hi_8 d_Mo_image_52 ?_
            refine lv_topi (fun x3_9 e_x3_9 => ?_)
            replace hf := nm_eq e_x3_9 hf
            refine lv_istore_n (lv' := [(3, .int x3_9), (0, .ref a_p0), (1, .int p1), (2, .int p2)]) hx hb d_Mo_image_53 rfl hl (by decide) rfl (fun ls hl => ?_)
            refine lv_iload_n hx hb d_Mo_image_54 rfl (lv_at hl 3 rfl) ?_
            refine lv_if_ne (tgt := 67) hx hb d_Mo_image_55 (by decide) (fun c_10 => ?_) (fun c_10 => ?_)
            · replace hf := if_f c_10 hf
              refine lv_iload_n hx hb d_Mo_image_67 rfl (lv_at hl 3 rfl) ?_
              refine lv_iconst (v := 1) hx hb d_Mo_image_68 (by decide) ?_
              refine lv_icmp_ne (tgt := 81) hx hb d_Mo_image_69 (by decide) (fun c_11 => ?_) (fun c_11 => ?_)
              · replace hf := if_f c_11 hf
                refine lv_iload_n hx hb d_Mo_image_81 rfl (lv_at hl 3 rfl) ?_
                refine lv_iconst (v := 2) hx hb d_Mo_image_82 (by decide) ?_
                refine lv_icmp_ne (tgt := 95) hx hb d_Mo_image_83 (by decide) (fun c_12 => ?_) (fun c_12 => ?_)
                · replace hf := if_f c_12 hf
                  refine lv_aload_n hx hb d_Mo_image_95 rfl (lv_at hl 1 rfl) ?_
                  refine va_get (D := (dC, dI)) (ci := 4) (v := .int u_1.2.2.2.1) (C := "FermionMapsModel") (T := F_Mo) (N := 25) hx hb ht0 i_Mo hown hK hP 0 rfl rfl 22 (by decide) (ht0 _ m_479) (fun _ h9 => h9) rfl d_Mo_image_96 ?_
                  refine lv_i2l (v := u_1.2.2.2.1.toInt64) hx hb d_Mo_image_99 rfl ?_
                  have hu := Option.some.inj hf
                  subst hu
                  exact rw_l hQ rfl rfl hP hD hK hS hx hb hr hlocks d_Mo_image_100
                · replace hf := if_t c_12 hf
                  refine lv_aload_n hx hb d_Mo_image_86 rfl (lv_at hl 1 rfl) ?_
                  refine va_get (D := (dC, dI)) (ci := 4) (v := .ref a_image) (C := "FermionMapsModel") (T := F_Mo) (N := 25) hx hb ht0 i_Mo hown hK hP 0 rfl rfl 20 (by decide) (ht0 _ m_477) (fun _ h9 => h9) rfl d_Mo_image_87 ?_
                  refine lv_iload_n hx hb d_Mo_image_90 rfl (lv_at hl 0 rfl) ?_
                  obtain ⟨hi_13, hf⟩ := ckI_ok hf
                  refine va_lald hx hb hK hP 6 1 rfl rfl hi_13 d_Mo_image_91 ?_
                  refine lv_goto (tgt := 100) hx hb d_Mo_image_92 (by decide) ?_
                  have hu := Option.some.inj hf
                  subst hu
                  exact rw_l hQ rfl rfl hP hD hK hS hx hb hr hlocks d_Mo_image_100
              · replace hf := if_t c_11 hf
                refine lv_iload_n hx hb d_Mo_image_72 rfl (lv_at hl 0 rfl) ?_
                refine lv_sipush (v := 256) hx hb d_Mo_image_73 (by decide) ?_
                obtain ⟨hz_14, hf⟩ := ckZ_ok hf
                refine lv_irem hx hb d_Mo_image_76 hz_14 ?_
                refine lv_i2l (v := (x3_9 - x3_9 / 256 * 256).toInt64) hx hb d_Mo_image_77 rfl ?_
                refine lv_goto (tgt := 100) hx hb d_Mo_image_78 (by decide) ?_
                have hu := Option.some.inj hf
                subst hu
                exact rw_l hQ rfl rfl hP hD hK hS hx hb hr hlocks d_Mo_image_100
            · replace hf := if_t c_10 hf
              refine lv_iload_n hx hb d_Mo_image_58 rfl (lv_at hl 0 rfl) ?_
              refine lv_sipush (v := 256) hx hb d_Mo_image_59 (by decide) ?_
              obtain ⟨hz_15, hf⟩ := ckZ_ok hf
              refine lv_idiv hx hb d_Mo_image_62 hz_15 ?_
              refine lv_i2l (v := (x3_9 / 256).toInt64) hx hb d_Mo_image_63 rfl ?_
              refine lv_goto (tgt := 100) hx hb d_Mo_image_64 (by decide) ?_
              have hu := Option.some.inj hf
              subst hu
              exact rw_l hQ rfl rfl hP hD hK hS hx hb hr hlocks d_Mo_image_100
          · replace hf := if_f c_7 hf
            exact B_41 0 u_1.1 u_1.2.1 u_1.2.2.1 u_1.2.2.2.1 u_1.2.2.2.2.1 u_1.2.2.2.2.2.1 u_1.2.2.2.2.2.2.1 u_1.2.2.2.2.2.2.2.1 u_1.2.2.2.2.2.2.2.2 H locs ls hf hP hD hS (lv_sub hl [0] rfl)
  · replace hf := if_t c_2 hf
    refine lv_aload_n hx hb d_Mo_image_14 rfl (lv_at hl 0 rfl) ?_
    refine va_get (D := (dC, dI)) (ci := 4) (v := .int u_1.2.2.2.2.1) (C := "FermionMapsModel") (T := F_Mo) (N := 25) hx hb ht0 i_Mo hown hK hP 0 rfl rfl 23 (by decide) (ht0 _ m_480) (fun _ h9 => h9) rfl d_Mo_image_15 ?_
    refine lv_i2l (v := u_1.2.2.2.2.1.toInt64) hx hb d_Mo_image_18 rfl ?_
    have hu := Option.some.inj hf
    subst hu
    exact rw_l hQ rfl rfl hP hD hK hS hx hb hr hlocks d_Mo_image_19

/-! FermionMapsModel.total(I)I -/
def b_Mo_total_105 (F : Nat) (k_70 : Int32 → Int32 → Int32 → Int32 → Int32 → Int32 → Int32 → Int32 → Int32 → (Nat → Int64) → (Nat → Int64) → (Nat → Int32) → Option (Int32 × Int32 × Int32 × Int32 × Int32 × Int32 × Int32 × Int32 × (Nat → Int64) × (Nat → Int64) × (Nat → Int32))) (modes : Int32) (products : Int32) (wayKind : Int32) (upsOf : Nat → Int32) (downsOf : Nat → Int32) (numberOf : Nat → Int64) (reads : Nat → Int32) (x3 : Int32) (s0 : Int32) (s1 : Int32) (thrown : Int32) (isImageKnown : Int32) (madeState : Int32) (madeSign : Int32) (imagePower : Int32) (imageMany : Int32) (imageWires : Int32) (matrix : Nat → Int64) (image : Nat → Int64) (imagePlace : Nat → Int32) : Option (Int32 × Int32 × Int32 × Int32 × Int32 × Int32 × Int32 × Int32 × (Nat → Int64) × (Nat → Int64) × (Nat → Int32)) :=
  nm ((s0 + s1) : Int32) fun x2_14 =>
  nm (x3 + 1 : Int32) fun x3_15 =>
  k_70 x2_14 x3_15 thrown isImageKnown madeState madeSign imagePower imageMany imageWires matrix image imagePlace
def b_Mo_total_70 (F : Nat) (modes : Int32) (products : Int32) (wayKind : Int32) (upsOf : Nat → Int32) (downsOf : Nat → Int32) (numberOf : Nat → Int64) (reads : Nat → Int32) : Nat → Int32 → Int32 → Int32 → Int32 → Int32 → Int32 → Int32 → Int32 → Int32 → (Nat → Int64) → (Nat → Int64) → (Nat → Int32) → Option (Int32 × Int32 × Int32 × Int32 × Int32 × Int32 × Int32 × Int32 × (Nat → Int64) × (Nat → Int64) × (Nat → Int32))
  | 0, _, _, _, _, _, _, _, _, _, _, _, _ => none
  | n + 1, x2, x3, thrown, isImageKnown, madeState, madeSign, imagePower, imageMany, imageWires, matrix, image, imagePlace =>
    if products ≤ x3 then
      if x2 = 0 then
        some (1, thrown, isImageKnown, madeState, madeSign, imagePower, imageMany, imageWires, matrix, image, imagePlace)
      else
        some (0, thrown, isImageKnown, madeState, madeSign, imagePower, imageMany, imageWires, matrix, image, imagePlace)
    else
      ckI x3 60 <|
      (f_Mo_ones F (upsOf x3.toNatClampNeg)).bind fun u_10 =>
      ckI x3 60 <|
      (f_Mo_ones F (downsOf x3.toNatClampNeg)).bind fun u_12 =>
      if u_10 = u_12 then
        b_Mo_total_105 F (b_Mo_total_70 F modes products wayKind upsOf downsOf numberOf reads n) modes products wayKind upsOf downsOf numberOf reads x3 x2 0 thrown isImageKnown madeState madeSign imagePower imageMany imageWires matrix image imagePlace
      else
        b_Mo_total_105 F (b_Mo_total_70 F modes products wayKind upsOf downsOf numberOf reads n) modes products wayKind upsOf downsOf numberOf reads x3 x2 1 thrown isImageKnown madeState madeSign imagePower imageMany imageWires matrix image imagePlace
def f_Mo_total (F : Nat) (thrown : Int32) (modes : Int32) (products : Int32) (wayKind : Int32) (isImageKnown : Int32) (madeState : Int32) (madeSign : Int32) (imagePower : Int32) (imageMany : Int32) (imageWires : Int32) (upsOf : Nat → Int32) (downsOf : Nat → Int32) (numberOf : Nat → Int64) (reads : Nat → Int32) (matrix : Nat → Int64) (image : Nat → Int64) (imagePlace : Nat → Int32) (p1 : Int32) : Option (Int32 × Int32 × Int32 × Int32 × Int32 × Int32 × Int32 × Int32 × (Nat → Int64) × (Nat → Int64) × (Nat → Int32)) :=
  if p1 = 0 then
    some (modes, 0, isImageKnown, madeState, madeSign, imagePower, imageMany, imageWires, matrix, image, imagePlace)
  else
    if p1 = 1 then
      some (products, 0, isImageKnown, madeState, madeSign, imagePower, imageMany, imageWires, matrix, image, imagePlace)
    else
      if p1 = 2 then
        some (wayKind, 0, isImageKnown, madeState, madeSign, imagePower, imageMany, imageWires, matrix, image, imagePlace)
      else
        if p1 = 3 then
          (f_Mo_findImage F modes products isImageKnown madeState madeSign imagePower imageMany imageWires upsOf downsOf numberOf reads matrix image imagePlace).bind fun u_5 =>
          some (u_5.2.2.2.2.2.1, 0, u_5.1, u_5.2.1, u_5.2.2.1, u_5.2.2.2.1, u_5.2.2.2.2.1, u_5.2.2.2.2.2.1, u_5.2.2.2.2.2.2.1, u_5.2.2.2.2.2.2.2.1, u_5.2.2.2.2.2.2.2.2)
        else
          if p1 = 4 then
            b_Mo_total_70 F modes products wayKind upsOf downsOf numberOf reads F 0 0 0 isImageKnown madeState madeSign imagePower imageMany imageWires matrix image imagePlace
          else
            some ((-1), 0, isImageKnown, madeState, madeSign, imagePower, imageMany, imageWires, matrix, image, imagePlace)
abbrev rm_Mo_total : Room := { frames := 5, cells := 0, slots := 0, locals := 113 }
set_option maxHeartbeats 4000000 in
set_option maxRecDepth 100000 in
theorem c_Mo_total (l : Launch) (dC : Nat → ClassId) (dI : Nat → Nat → Nat) (cI cJ : ClassId) (a_p0 a_upsOf a_downsOf a_numberOf a_reads a_matrix a_image a_imagePlace z_rowOf z_writes z_other z_newUps z_newDowns z_newNumber z_found : Nat) (sz : Nat) (thrown : Int32) (modes : Int32) (products : Int32) (wayKind : Int32) (isImageKnown : Int32) (madeState : Int32) (madeSign : Int32) (newMany : Int32) (imagePower : Int32) (imageMany : Int32) (imageWires : Int32) (upsOf : Nat → Int32) (downsOf : Nat → Int32) (numberOf : Nat → Int64) (reads : Nat → Int32) (matrix : Nat → Int64) (image : Nat → Int64) (imagePlace : Nat → Int32) (p1 : Int32) (F : Nat) (u : Int32 × Int32 × Int32 × Int32 × Int32 × Int32 × Int32 × Int32 × (Nat → Int64) × (Nat → Int64) × (Nat → Int32)) (hf : f_Mo_total F thrown modes products wayKind isImageKnown madeState madeSign imagePower imageMany imageWires upsOf downsOf numberOf reads matrix image imagePlace p1 = some u) : Met l y_Mo_total (Cond.code y_Mo_total prog_6_method_33_code 4 (some .int) :: T0) rm_Mo_total (va_Pc [.ref a_p0, .int p1] (Ww (dC, dI) [(a_p0, .inr (4, [.int thrown, .int modes, .int products, .ref a_upsOf, .ref a_downsOf, .ref a_numberOf, .int wayKind, .ref z_rowOf, .ref z_writes, .ref a_reads, .int isImageKnown, .int madeState, .int madeSign, .ref a_matrix, .ref z_other, .int newMany, .ref z_newUps, .ref z_newDowns, .ref z_newNumber, .ref z_found, .ref a_image, .ref a_imagePlace, .int imagePower, .int imageMany, .int imageWires])), (a_upsOf, .inl (cI, 60, .inl upsOf)), (a_downsOf, .inl (cI, 60, .inl downsOf)), (a_numberOf, .inl (cJ, 60, .inr (.inl numberOf))), (a_reads, .inl (cI, 256, .inl reads)), (a_matrix, .inl (cJ, 65536, .inr (.inl matrix))), (a_image, .inl (cJ, 65536, .inr (.inl image))), (a_imagePlace, .inl (cI, 65536, .inl imagePlace))] [(cI, .int), (cJ, .long)] sz)) (va_Qi (fun r (_ : Unit) => r = u.1) (Bw (dC, dI) [(cI, .int), (cJ, .long)] (va_A [(a_p0, .inr (4, [.int thrown, .int modes, .int products, .ref a_upsOf, .ref a_downsOf, .ref a_numberOf, .int wayKind, .ref z_rowOf, .ref z_writes, .ref a_reads, .int isImageKnown, .int madeState, .int madeSign, .ref a_matrix, .ref z_other, .int newMany, .ref z_newUps, .ref z_newDowns, .ref z_newNumber, .ref z_found, .ref a_image, .ref a_imagePlace, .int imagePower, .int imageMany, .int imageWires])), (a_upsOf, .inl (cI, 60, .inl upsOf)), (a_downsOf, .inl (cI, 60, .inl downsOf)), (a_numberOf, .inl (cJ, 60, .inr (.inl numberOf))), (a_reads, .inl (cI, 256, .inl reads)), (a_matrix, .inl (cJ, 65536, .inr (.inl matrix))), (a_image, .inl (cJ, 65536, .inr (.inl image))), (a_imagePlace, .inl (cI, 65536, .inl imagePlace))] sz) (fun w1 => w1 = [(a_p0, .inr (4, [.int u.2.1, .int modes, .int products, .ref a_upsOf, .ref a_downsOf, .ref a_numberOf, .int wayKind, .ref z_rowOf, .ref z_writes, .ref a_reads, .int u.2.2.1, .int u.2.2.2.1, .int u.2.2.2.2.1, .ref a_matrix, .ref z_other, .int newMany, .ref z_newUps, .ref z_newDowns, .ref z_newNumber, .ref z_found, .ref a_image, .ref a_imagePlace, .int u.2.2.2.2.2.1, .int u.2.2.2.2.2.2.1, .int u.2.2.2.2.2.2.2.1])), (a_upsOf, .inl (cI, 60, .inl upsOf)), (a_downsOf, .inl (cI, 60, .inl downsOf)), (a_numberOf, .inl (cJ, 60, .inr (.inl numberOf))), (a_reads, .inl (cI, 256, .inl reads)), (a_matrix, .inl (cJ, 65536, .inr (.inl u.2.2.2.2.2.2.2.2.1))), (a_image, .inl (cJ, 65536, .inr (.inl u.2.2.2.2.2.2.2.2.2.1))), (a_imagePlace, .inl (cI, 65536, .inl u.2.2.2.2.2.2.2.2.2.2))])) (va_A [(a_p0, .inr (4, [.int thrown, .int modes, .int products, .ref a_upsOf, .ref a_downsOf, .ref a_numberOf, .int wayKind, .ref z_rowOf, .ref z_writes, .ref a_reads, .int isImageKnown, .int madeState, .int madeSign, .ref a_matrix, .ref z_other, .int newMany, .ref z_newUps, .ref z_newDowns, .ref z_newNumber, .ref z_found, .ref a_image, .ref a_imagePlace, .int imagePower, .int imageMany, .int imageWires])), (a_upsOf, .inl (cI, 60, .inl upsOf)), (a_downsOf, .inl (cI, 60, .inl downsOf)), (a_numberOf, .inl (cJ, 60, .inr (.inl numberOf))), (a_reads, .inl (cI, 256, .inl reads)), (a_matrix, .inl (cJ, 65536, .inr (.inl matrix))), (a_image, .inl (cJ, 65536, .inr (.inl image))), (a_imagePlace, .inl (cI, 65536, .inl imagePlace))] sz)) 0 0 (va_A [(a_p0, .inr (4, [.int thrown, .int modes, .int products, .ref a_upsOf, .ref a_downsOf, .ref a_numberOf, .int wayKind, .ref z_rowOf, .ref z_writes, .ref a_reads, .int isImageKnown, .int madeState, .int madeSign, .ref a_matrix, .ref z_other, .int newMany, .ref z_newUps, .ref z_newDowns, .ref z_newNumber, .ref z_found, .ref a_image, .ref a_imagePlace, .int imagePower, .int imageMany, .int imageWires])), (a_upsOf, .inl (cI, 60, .inl upsOf)), (a_downsOf, .inl (cI, 60, .inl downsOf)), (a_numberOf, .inl (cJ, 60, .inr (.inl numberOf))), (a_reads, .inl (cI, 256, .inl reads)), (a_matrix, .inl (cJ, 65536, .inr (.inl matrix))), (a_image, .inl (cJ, 65536, .inr (.inl image))), (a_imagePlace, .inl (cI, 65536, .inl imagePlace))] sz) := by
  refine Met.ofW (cc := prog_6_method_33_code) (maxL := 4) (ret := (some .int)) (by decide) rfl ?_
  intro p e s m args below meth c s₁ B hml hv
  obtain ⟨rfl, hsz, hP, hK, hD0, hNW⟩ := hv
  have hx := B.exec
  have hb := B.bytes
  have hr := B.returns
  have hts := atoms_spec (ws := Cond.code y_Mo_total prog_6_method_33_code 4 (some .int) :: T0) B.pre
  have ht0 : ∀ w ∈ T0, w.before ([.ref a_p0, .int p1] : List Value).toArray s = true := fun w h => hts w (List.mem_cons_of_mem _ h)
  have hown : s.vm.findClass "FermionMapsModel" = some m.cls := findClass_of_methodNamed B.named
  have hlocks := B.notSynchronized
  subst hsz
  have hD := hD0.self (sz := s.heap.size)
  generalize hAe : va_A [(a_p0, .inr (4, [.int thrown, .int modes, .int products, .ref a_upsOf, .ref a_downsOf, .ref a_numberOf, .int wayKind, .ref z_rowOf, .ref z_writes, .ref a_reads, .int isImageKnown, .int madeState, .int madeSign, .ref a_matrix, .ref z_other, .int newMany, .ref z_newUps, .ref z_newDowns, .ref z_newNumber, .ref z_found, .ref a_image, .ref a_imagePlace, .int imagePower, .int imageMany, .int imageWires])), (a_upsOf, .inl (cI, 60, .inl upsOf)), (a_downsOf, .inl (cI, 60, .inl downsOf)), (a_numberOf, .inl (cJ, 60, .inr (.inl numberOf))), (a_reads, .inl (cI, 256, .inl reads)), (a_matrix, .inl (cJ, 65536, .inr (.inl matrix))), (a_image, .inl (cJ, 65536, .inr (.inl image))), (a_imagePlace, .inl (cI, 65536, .inl imagePlace))] s.heap.size = A at hD ⊢
  have hA : ∀ q : Nat, s.heap.size ≤ q → A q := fun q h => by rw [← hAe]; exact Or.inr h
  have hS : va_S A s.heap s.heap [] := va_S.rf
  have hl := lv_entry ([.ref a_p0, .int p1]) (n := 4) (Nat.le_of_ble_eq_true rfl)
  rw [lg_entry_eq]
  generalize (lg_sl ([.ref a_p0, .int p1]) ++ List.replicate (4 - (lg_sl ([.ref a_p0, .int p1])).length) Slot.unset).toArray = ls at hl ⊢
  have hl : lv_has ls 4 [(0, .ref a_p0), (1, .int p1)] := hl
  refine W.nameQ (fun Q hQ => ?_)
  have B_105 : ∀ (k_70 : Int32 → Int32 → Int32 → Int32 → Int32 → Int32 → Int32 → Int32 → Int32 → (Nat → Int64) → (Nat → Int64) → (Nat → Int32) → Option (Int32 × Int32 × Int32 × Int32 × Int32 × Int32 × Int32 × Int32 × (Nat → Int64) × (Nat → Int64) × (Nat → Int32))) (hk_70 : ∀ (x2 : Int32) (x3 : Int32) (thrown : Int32) (isImageKnown : Int32) (madeState : Int32) (madeSign : Int32) (imagePower : Int32) (imageMany : Int32) (imageWires : Int32) (matrix : Nat → Int64) (image : Nat → Int64) (imagePlace : Nat → Int32) (H : Heap) (locs : List Loc) (ls : Array Slot), k_70 x2 x3 thrown isImageKnown madeState madeSign imagePower imageMany imageWires matrix image imagePlace = some u → va_P (dC, dI) cls [(a_p0, .inr (4, [.int thrown, .int modes, .int products, .ref a_upsOf, .ref a_downsOf, .ref a_numberOf, .int wayKind, .ref z_rowOf, .ref z_writes, .ref a_reads, .int isImageKnown, .int madeState, .int madeSign, .ref a_matrix, .ref z_other, .int newMany, .ref z_newUps, .ref z_newDowns, .ref z_newNumber, .ref z_found, .ref a_image, .ref a_imagePlace, .int imagePower, .int imageMany, .int imageWires])), (a_upsOf, .inl (cI, 60, .inl upsOf)), (a_downsOf, .inl (cI, 60, .inl downsOf)), (a_numberOf, .inl (cJ, 60, .inr (.inl numberOf))), (a_reads, .inl (cI, 256, .inl reads)), (a_matrix, .inl (cJ, 65536, .inr (.inl matrix))), (a_image, .inl (cJ, 65536, .inr (.inl image))), (a_imagePlace, .inl (cI, 65536, .inl imagePlace))] H → va_D A [(a_p0, .inr (4, [.int thrown, .int modes, .int products, .ref a_upsOf, .ref a_downsOf, .ref a_numberOf, .int wayKind, .ref z_rowOf, .ref z_writes, .ref a_reads, .int isImageKnown, .int madeState, .int madeSign, .ref a_matrix, .ref z_other, .int newMany, .ref z_newUps, .ref z_newDowns, .ref z_newNumber, .ref z_found, .ref a_image, .ref a_imagePlace, .int imagePower, .int imageMany, .int imageWires])), (a_upsOf, .inl (cI, 60, .inl upsOf)), (a_downsOf, .inl (cI, 60, .inl downsOf)), (a_numberOf, .inl (cJ, 60, .inr (.inl numberOf))), (a_reads, .inl (cI, 256, .inl reads)), (a_matrix, .inl (cJ, 65536, .inr (.inl matrix))), (a_image, .inl (cJ, 65536, .inr (.inl image))), (a_imagePlace, .inl (cI, 65536, .inl imagePlace))] → va_S A s.heap H locs → lv_has ls 4 [(0, .ref a_p0), (2, .int x2), (3, .int x3)] → W p l e (headSpec (Cond.code y_Mo_total prog_6_method_33_code 4 (some .int) :: T0) rm_Mo_total).room s m ([.ref a_p0, .int p1] : List Value).toArray below meth c H locs 0 0 Q (F0 m 70 ls [])), ∀ (x3 : Int32) (s0 : Int32) (s1 : Int32) (thrown : Int32) (isImageKnown : Int32) (madeState : Int32) (madeSign : Int32) (imagePower : Int32) (imageMany : Int32) (imageWires : Int32) (matrix : Nat → Int64) (image : Nat → Int64) (imagePlace : Nat → Int32) (H : Heap) (locs : List Loc) (ls : Array Slot), b_Mo_total_105 F k_70 modes products wayKind upsOf downsOf numberOf reads x3 s0 s1 thrown isImageKnown madeState madeSign imagePower imageMany imageWires matrix image imagePlace = some u → va_P (dC, dI) cls [(a_p0, .inr (4, [.int thrown, .int modes, .int products, .ref a_upsOf, .ref a_downsOf, .ref a_numberOf, .int wayKind, .ref z_rowOf, .ref z_writes, .ref a_reads, .int isImageKnown, .int madeState, .int madeSign, .ref a_matrix, .ref z_other, .int newMany, .ref z_newUps, .ref z_newDowns, .ref z_newNumber, .ref z_found, .ref a_image, .ref a_imagePlace, .int imagePower, .int imageMany, .int imageWires])), (a_upsOf, .inl (cI, 60, .inl upsOf)), (a_downsOf, .inl (cI, 60, .inl downsOf)), (a_numberOf, .inl (cJ, 60, .inr (.inl numberOf))), (a_reads, .inl (cI, 256, .inl reads)), (a_matrix, .inl (cJ, 65536, .inr (.inl matrix))), (a_image, .inl (cJ, 65536, .inr (.inl image))), (a_imagePlace, .inl (cI, 65536, .inl imagePlace))] H → va_D A [(a_p0, .inr (4, [.int thrown, .int modes, .int products, .ref a_upsOf, .ref a_downsOf, .ref a_numberOf, .int wayKind, .ref z_rowOf, .ref z_writes, .ref a_reads, .int isImageKnown, .int madeState, .int madeSign, .ref a_matrix, .ref z_other, .int newMany, .ref z_newUps, .ref z_newDowns, .ref z_newNumber, .ref z_found, .ref a_image, .ref a_imagePlace, .int imagePower, .int imageMany, .int imageWires])), (a_upsOf, .inl (cI, 60, .inl upsOf)), (a_downsOf, .inl (cI, 60, .inl downsOf)), (a_numberOf, .inl (cJ, 60, .inr (.inl numberOf))), (a_reads, .inl (cI, 256, .inl reads)), (a_matrix, .inl (cJ, 65536, .inr (.inl matrix))), (a_image, .inl (cJ, 65536, .inr (.inl image))), (a_imagePlace, .inl (cI, 65536, .inl imagePlace))] → va_S A s.heap H locs → lv_has ls 4 [(0, .ref a_p0), (3, .int x3)] → W p l e (headSpec (Cond.code y_Mo_total prog_6_method_33_code 4 (some .int) :: T0) rm_Mo_total).room s m ([.ref a_p0, .int p1] : List Value).toArray below meth c H locs 0 0 Q (F0 m 105 ls [.int s1, .int s0]) := by
    intro k_70 hk_70
    intro x3 s0 s1 thrown isImageKnown madeState madeSign imagePower imageMany imageWires matrix image imagePlace H locs ls hf hP hD hS hl
    rw [b_Mo_total_105] at hf
    refine lv_iadd hx hb d_Mo_total_105 ?_
    refine lv_topi (fun x2_14 e_x2_14 => ?_)
    replace hf := nm_eq e_x2_14 hf
    refine lv_istore_n (lv' := [(2, .int x2_14), (0, .ref a_p0), (3, .int x3)]) hx hb d_Mo_total_106 rfl hl (by decide) rfl (fun ls hl => ?_)
    obtain ⟨x3_15, e_x3_15⟩ : ∃ y : Int32, y = x3 + 1 := ⟨_, rfl⟩
    replace hf := nm_eq e_x3_15 hf
    refine lv_iinc (v := x3_15) (lv' := [(3, .int x3_15), (2, .int x2_14), (0, .ref a_p0)]) hx hb d_Mo_total_107 hl (k := 2) rfl (by rw [e_x3_15]; rfl) (by decide) rfl (fun ls hl => ?_)
    refine lv_goto (tgt := 70) hx hb d_Mo_total_110 (by decide) ?_
    exact hk_70 x2_14 x3_15 thrown isImageKnown madeState madeSign imagePower imageMany imageWires matrix image imagePlace H locs ls hf hP hD hS (lv_sub hl [2, 1, 0] rfl)
  have B_70 : ∀ (n : Nat), ∀ (x2 : Int32) (x3 : Int32) (thrown : Int32) (isImageKnown : Int32) (madeState : Int32) (madeSign : Int32) (imagePower : Int32) (imageMany : Int32) (imageWires : Int32) (matrix : Nat → Int64) (image : Nat → Int64) (imagePlace : Nat → Int32) (H : Heap) (locs : List Loc) (ls : Array Slot), b_Mo_total_70 F modes products wayKind upsOf downsOf numberOf reads n x2 x3 thrown isImageKnown madeState madeSign imagePower imageMany imageWires matrix image imagePlace = some u → va_P (dC, dI) cls [(a_p0, .inr (4, [.int thrown, .int modes, .int products, .ref a_upsOf, .ref a_downsOf, .ref a_numberOf, .int wayKind, .ref z_rowOf, .ref z_writes, .ref a_reads, .int isImageKnown, .int madeState, .int madeSign, .ref a_matrix, .ref z_other, .int newMany, .ref z_newUps, .ref z_newDowns, .ref z_newNumber, .ref z_found, .ref a_image, .ref a_imagePlace, .int imagePower, .int imageMany, .int imageWires])), (a_upsOf, .inl (cI, 60, .inl upsOf)), (a_downsOf, .inl (cI, 60, .inl downsOf)), (a_numberOf, .inl (cJ, 60, .inr (.inl numberOf))), (a_reads, .inl (cI, 256, .inl reads)), (a_matrix, .inl (cJ, 65536, .inr (.inl matrix))), (a_image, .inl (cJ, 65536, .inr (.inl image))), (a_imagePlace, .inl (cI, 65536, .inl imagePlace))] H → va_D A [(a_p0, .inr (4, [.int thrown, .int modes, .int products, .ref a_upsOf, .ref a_downsOf, .ref a_numberOf, .int wayKind, .ref z_rowOf, .ref z_writes, .ref a_reads, .int isImageKnown, .int madeState, .int madeSign, .ref a_matrix, .ref z_other, .int newMany, .ref z_newUps, .ref z_newDowns, .ref z_newNumber, .ref z_found, .ref a_image, .ref a_imagePlace, .int imagePower, .int imageMany, .int imageWires])), (a_upsOf, .inl (cI, 60, .inl upsOf)), (a_downsOf, .inl (cI, 60, .inl downsOf)), (a_numberOf, .inl (cJ, 60, .inr (.inl numberOf))), (a_reads, .inl (cI, 256, .inl reads)), (a_matrix, .inl (cJ, 65536, .inr (.inl matrix))), (a_image, .inl (cJ, 65536, .inr (.inl image))), (a_imagePlace, .inl (cI, 65536, .inl imagePlace))] → va_S A s.heap H locs → lv_has ls 4 [(0, .ref a_p0), (2, .int x2), (3, .int x3)] → W p l e (headSpec (Cond.code y_Mo_total prog_6_method_33_code 4 (some .int) :: T0) rm_Mo_total).room s m ([.ref a_p0, .int p1] : List Value).toArray below meth c H locs 0 0 Q (F0 m 70 ls []) := by
    intro n
    induction n with
    | zero =>
      intro x2 x3 thrown isImageKnown madeState madeSign imagePower imageMany imageWires matrix image imagePlace H locs ls hf hP hD hS hl
      exact no_fuel hf
    | succ n ih =>
      intro x2 x3 thrown isImageKnown madeState madeSign imagePower imageMany imageWires matrix image imagePlace H locs ls hf hP hD hS hl
      rw [b_Mo_total_70] at hf
      refine lv_iload_n hx hb d_Mo_total_70 rfl (lv_at hl 2 rfl) ?_
      refine lv_aload_n hx hb d_Mo_total_71 rfl (lv_at hl 0 rfl) ?_
      refine va_get (D := (dC, dI)) (ci := 4) (v := .int products) (C := "FermionMapsModel") (T := F_Mo) (N := 25) hx hb ht0 i_Mo hown hK hP 0 rfl rfl 2 (by decide) (ht0 _ m_459) (fun _ h9 => h9) rfl d_Mo_total_72 ?_
      refine lv_icmp_ge (tgt := 113) hx hb d_Mo_total_75 (by decide) (fun c_7 => ?_) (fun c_7 => ?_)
      · replace hf := if_t c_7 hf
        refine lv_iload_n hx hb d_Mo_total_113 rfl (lv_at hl 1 rfl) ?_
        refine lv_if_ne (tgt := 121) hx hb d_Mo_total_114 (by decide) (fun c_8 => ?_) (fun c_8 => ?_)
        · replace hf := if_f c_8 hf
          refine lv_iconst (v := 0) hx hb d_Mo_total_121 (by decide) ?_
          have hu := Option.some.inj hf
          subst hu
          exact rw_i hQ rfl rfl hP hD hK hS hx hb hr hlocks d_Mo_total_122
        · replace hf := if_t c_8 hf
          refine lv_iconst (v := 1) hx hb d_Mo_total_117 (by decide) ?_
          refine lv_goto (tgt := 122) hx hb d_Mo_total_118 (by decide) ?_
          have hu := Option.some.inj hf
          subst hu
          exact rw_i hQ rfl rfl hP hD hK hS hx hb hr hlocks d_Mo_total_122
      · replace hf := if_f c_7 hf
        refine lv_iload_n hx hb d_Mo_total_78 rfl (lv_at hl 1 rfl) ?_
        refine lv_aload_n hx hb d_Mo_total_79 rfl (lv_at hl 0 rfl) ?_
        refine va_get (D := (dC, dI)) (ci := 4) (v := .ref a_upsOf) (C := "FermionMapsModel") (T := F_Mo) (N := 25) hx hb ht0 i_Mo hown hK hP 0 rfl rfl 3 (by decide) (ht0 _ m_460) (fun _ h9 => h9) rfl d_Mo_total_80 ?_
        refine lv_iload_n hx hb d_Mo_total_83 rfl (lv_at hl 2 rfl) ?_
        obtain ⟨hi_9, hf⟩ := ckI_ok hf
        refine va_iald hx hb hK hP 1 0 rfl rfl hi_9 d_Mo_total_84 ?_
        obtain ⟨u_10, h_u_10, hf⟩ := bd hf
        refine rd_i (rdS_run (As := [.int (upsOf x3.toNatClampNeg)]) (rest := [.int x2]) ⟨hx, hb, hml, hown, ht0⟩ (c_Mo_ones l dC dI cI cJ (upsOf x3.toNatClampNeg) F u_10 h_u_10) (va_cwS 1 ht0 (gS m_454 m_455 m_5 m_456) rfl rfl rfl (by decide +kernel) ⟨Nat.le_of_ble_eq_true rfl, Nat.le_of_ble_eq_true rfl⟩) hK hNW hP [] rfl  rfl hl.1 rfl (Nat.le_of_ble_eq_true rfl) d_Mo_total_85 ⟨Nat.zero_le _, Nat.zero_le _⟩) ?_
        refine lv_aload_n hx hb d_Mo_total_88 rfl (lv_at hl 0 rfl) ?_
        refine va_get (D := (dC, dI)) (ci := 4) (v := .ref a_downsOf) (C := "FermionMapsModel") (T := F_Mo) (N := 25) hx hb ht0 i_Mo hown hK hP 0 rfl rfl 4 (by decide) (ht0 _ m_461) (fun _ h9 => h9) rfl d_Mo_total_89 ?_
        refine lv_iload_n hx hb d_Mo_total_92 rfl (lv_at hl 2 rfl) ?_
        obtain ⟨hi_11, hf⟩ := ckI_ok hf
        refine va_iald hx hb hK hP 2 0 rfl rfl hi_11 d_Mo_total_93 ?_
        obtain ⟨u_12, h_u_12, hf⟩ := bd hf
        refine rd_i (rdS_run (As := [.int (downsOf x3.toNatClampNeg)]) (rest := [.int u_10, .int x2]) ⟨hx, hb, hml, hown, ht0⟩ (c_Mo_ones l dC dI cI cJ (downsOf x3.toNatClampNeg) F u_12 h_u_12) (va_cwS 1 ht0 (gS m_454 m_455 m_5 m_456) rfl rfl rfl (by decide +kernel) ⟨Nat.le_of_ble_eq_true rfl, Nat.le_of_ble_eq_true rfl⟩) hK hNW hP [] rfl  rfl hl.1 rfl (Nat.le_of_ble_eq_true rfl) d_Mo_total_94 ⟨Nat.zero_le _, Nat.zero_le _⟩) ?_
        refine lv_icmp_ne (tgt := 104) hx hb d_Mo_total_97 (by decide) (fun c_13 => ?_) (fun c_13 => ?_)
        · replace hf := if_f c_13 hf
          refine lv_iconst (v := 1) hx hb d_Mo_total_104 (by decide) ?_
          exact B_105 (b_Mo_total_70 F modes products wayKind upsOf downsOf numberOf reads n) ih x3 x2 1 thrown isImageKnown madeState madeSign imagePower imageMany imageWires matrix image imagePlace H locs ls hf hP hD hS (lv_sub hl [0, 2] rfl)
        · replace hf := if_t c_13 hf
          refine lv_iconst (v := 0) hx hb d_Mo_total_100 (by decide) ?_
          refine lv_goto (tgt := 105) hx hb d_Mo_total_101 (by decide) ?_
          exact B_105 (b_Mo_total_70 F modes products wayKind upsOf downsOf numberOf reads n) ih x3 x2 0 thrown isImageKnown madeState madeSign imagePower imageMany imageWires matrix image imagePlace H locs ls hf hP hD hS (lv_sub hl [0, 2] rfl)
  rw [f_Mo_total] at hf
  refine lv_aload_n hx hb d_Mo_total_0 rfl (lv_at hl 0 rfl) ?_
  refine lv_iconst (v := 0) hx hb d_Mo_total_1 (by decide) ?_
  refine va_put (D := (dC, dI)) (ci := 4) (v := .int 0) (ty := .int) (C := "FermionMapsModel") (T := F_Mo) (N := 25) hx hb ht0 i_Mo t_Mo t_Mo_ok n_Mo hown hK hP hD hS 0 rfl rfl 0 (by decide) (ht0 _ m_457) (fun _ h9 => h9) rfl (by decide +kernel) rfl rfl (Nat.le_of_ble_eq_true rfl) d_Mo_total_2 (fun H locs hP hD hS => ?_)
  have hP : va_P (dC, dI) cls [(a_p0, .inr (4, [.int 0, .int modes, .int products, .ref a_upsOf, .ref a_downsOf, .ref a_numberOf, .int wayKind, .ref z_rowOf, .ref z_writes, .ref a_reads, .int isImageKnown, .int madeState, .int madeSign, .ref a_matrix, .ref z_other, .int newMany, .ref z_newUps, .ref z_newDowns, .ref z_newNumber, .ref z_found, .ref a_image, .ref a_imagePlace, .int imagePower, .int imageMany, .int imageWires])), (a_upsOf, .inl (cI, 60, .inl upsOf)), (a_downsOf, .inl (cI, 60, .inl downsOf)), (a_numberOf, .inl (cJ, 60, .inr (.inl numberOf))), (a_reads, .inl (cI, 256, .inl reads)), (a_matrix, .inl (cJ, 65536, .inr (.inl matrix))), (a_image, .inl (cJ, 65536, .inr (.inl image))), (a_imagePlace, .inl (cI, 65536, .inl imagePlace))] H := hP
  have hD : va_D A [(a_p0, .inr (4, [.int 0, .int modes, .int products, .ref a_upsOf, .ref a_downsOf, .ref a_numberOf, .int wayKind, .ref z_rowOf, .ref z_writes, .ref a_reads, .int isImageKnown, .int madeState, .int madeSign, .ref a_matrix, .ref z_other, .int newMany, .ref z_newUps, .ref z_newDowns, .ref z_newNumber, .ref z_found, .ref a_image, .ref a_imagePlace, .int imagePower, .int imageMany, .int imageWires])), (a_upsOf, .inl (cI, 60, .inl upsOf)), (a_downsOf, .inl (cI, 60, .inl downsOf)), (a_numberOf, .inl (cJ, 60, .inr (.inl numberOf))), (a_reads, .inl (cI, 256, .inl reads)), (a_matrix, .inl (cJ, 65536, .inr (.inl matrix))), (a_image, .inl (cJ, 65536, .inr (.inl image))), (a_imagePlace, .inl (cI, 65536, .inl imagePlace))] := hD
  refine lv_iconst (v := 0) hx hb d_Mo_total_5 (by decide) ?_
  refine lv_istore_n (lv' := [(2, .int 0), (0, .ref a_p0), (1, .int p1)]) hx hb d_Mo_total_6 rfl hl (by decide) rfl (fun ls hl => ?_)
  refine lv_iload_n hx hb d_Mo_total_7 rfl (lv_at hl 2 rfl) ?_
  by_cases c_1 : p1 = 0
  · replace hf := if_t c_1 hf
    refine lv_tableIn (off := 36) (tgt := 44) hx hb d_Mo_total_8 (by rw [c_1]; decide) (by rw [c_1]; decide) (by rw [c_1]; rfl) (by decide) ?_
    refine lv_aload_n hx hb d_Mo_total_44 rfl (lv_at hl 1 rfl) ?_
    refine va_get (D := (dC, dI)) (ci := 4) (v := .int modes) (C := "FermionMapsModel") (T := F_Mo) (N := 25) hx hb ht0 i_Mo hown hK hP 0 rfl rfl 1 (by decide) (ht0 _ m_458) (fun _ h9 => h9) rfl d_Mo_total_45 ?_
    have hu := Option.some.inj hf
    subst hu
    exact rw_i hQ rfl rfl hP hD hK hS hx hb hr hlocks d_Mo_total_48
  · replace hf := if_f c_1 hf
    by_cases c_2 : p1 = 1
    · replace hf := if_t c_2 hf
      refine lv_tableIn (off := 41) (tgt := 49) hx hb d_Mo_total_8 (by rw [c_2]; decide) (by rw [c_2]; decide) (by rw [c_2]; rfl) (by decide) ?_
      refine lv_aload_n hx hb d_Mo_total_49 rfl (lv_at hl 1 rfl) ?_
      refine va_get (D := (dC, dI)) (ci := 4) (v := .int products) (C := "FermionMapsModel") (T := F_Mo) (N := 25) hx hb ht0 i_Mo hown hK hP 0 rfl rfl 2 (by decide) (ht0 _ m_459) (fun _ h9 => h9) rfl d_Mo_total_50 ?_
      have hu := Option.some.inj hf
      subst hu
      exact rw_i hQ rfl rfl hP hD hK hS hx hb hr hlocks d_Mo_total_53
    · replace hf := if_f c_2 hf
      by_cases c_3 : p1 = 2
      · replace hf := if_t c_3 hf
        refine lv_tableIn (off := 46) (tgt := 54) hx hb d_Mo_total_8 (by rw [c_3]; decide) (by rw [c_3]; decide) (by rw [c_3]; rfl) (by decide) ?_
        refine lv_aload_n hx hb d_Mo_total_54 rfl (lv_at hl 1 rfl) ?_
        refine va_get (D := (dC, dI)) (ci := 4) (v := .int wayKind) (C := "FermionMapsModel") (T := F_Mo) (N := 25) hx hb ht0 i_Mo hown hK hP 0 rfl rfl 6 (by decide) (ht0 _ m_463) (fun _ h9 => h9) rfl d_Mo_total_55 ?_
        have hu := Option.some.inj hf
        subst hu
        exact rw_i hQ rfl rfl hP hD hK hS hx hb hr hlocks d_Mo_total_58
      · replace hf := if_f c_3 hf
        by_cases c_4 : p1 = 3
        · replace hf := if_t c_4 hf
          refine lv_tableIn (off := 51) (tgt := 59) hx hb d_Mo_total_8 (by rw [c_4]; decide) (by rw [c_4]; decide) (by rw [c_4]; rfl) (by decide) ?_
          refine lv_aload_n hx hb d_Mo_total_59 rfl (lv_at hl 1 rfl) ?_
          obtain ⟨u_5, h_u_5, hf⟩ := bd hf
          refine wr_v (wr := []) (wrV_run (As := []) (rest := []) ⟨hx, hb, hml, hown, ht0⟩ (c_Mo_findImage l dC dI cI cJ a_p0 a_upsOf a_downsOf a_numberOf a_reads a_matrix a_image a_imagePlace z_rowOf z_writes z_other z_newUps z_newDowns z_newNumber z_found H.size 0 modes products wayKind isImageKnown madeState madeSign newMany imagePower imageMany imageWires upsOf downsOf numberOf reads matrix image imagePlace F u_5 h_u_5) (cwV 0 ht0 (gV m_619 m_621 (T0_pr (y := ⟨"FermionMapsModel", "findImage", "()V"⟩) (i := 16) rfl rfl) m_5 m_622) rfl rfl rfl (by decide +kernel) ⟨Nat.le_of_ble_eq_true rfl, Nat.le_of_ble_eq_true rfl⟩) hK hNW hP hD [0, 1, 2, 3, 4, 5, 6, 7] rfl rfl (by decide) (ci := 4) (q0 := 0) rfl rfl rfl hl.1 rfl (Nat.le_of_ble_eq_true rfl) d_Mo_total_60 ⟨Nat.zero_le _, Nat.zero_le _⟩) hP hD hS hA [0, 1, 2, 3, 4, 5, 6, 7] [] rfl rfl (by decide) (by decide) (fun w1 H locs hw hP hD hS => ?_)
          obtain rfl := hw
          have hP : va_P (dC, dI) cls [(a_p0, .inr (4, [.int 0, .int modes, .int products, .ref a_upsOf, .ref a_downsOf, .ref a_numberOf, .int wayKind, .ref z_rowOf, .ref z_writes, .ref a_reads, .int u_5.1, .int u_5.2.1, .int u_5.2.2.1, .ref a_matrix, .ref z_other, .int newMany, .ref z_newUps, .ref z_newDowns, .ref z_newNumber, .ref z_found, .ref a_image, .ref a_imagePlace, .int u_5.2.2.2.1, .int u_5.2.2.2.2.1, .int u_5.2.2.2.2.2.1])), (a_upsOf, .inl (cI, 60, .inl upsOf)), (a_downsOf, .inl (cI, 60, .inl downsOf)), (a_numberOf, .inl (cJ, 60, .inr (.inl numberOf))), (a_reads, .inl (cI, 256, .inl reads)), (a_matrix, .inl (cJ, 65536, .inr (.inl u_5.2.2.2.2.2.2.1))), (a_image, .inl (cJ, 65536, .inr (.inl u_5.2.2.2.2.2.2.2.1))), (a_imagePlace, .inl (cI, 65536, .inl u_5.2.2.2.2.2.2.2.2))] H := hP.sub [0, 1, 2, 3, 4, 5, 6, 7] rfl
          have hD : va_D A [(a_p0, .inr (4, [.int 0, .int modes, .int products, .ref a_upsOf, .ref a_downsOf, .ref a_numberOf, .int wayKind, .ref z_rowOf, .ref z_writes, .ref a_reads, .int u_5.1, .int u_5.2.1, .int u_5.2.2.1, .ref a_matrix, .ref z_other, .int newMany, .ref z_newUps, .ref z_newDowns, .ref z_newNumber, .ref z_found, .ref a_image, .ref a_imagePlace, .int u_5.2.2.2.1, .int u_5.2.2.2.2.1, .int u_5.2.2.2.2.2.1])), (a_upsOf, .inl (cI, 60, .inl upsOf)), (a_downsOf, .inl (cI, 60, .inl downsOf)), (a_numberOf, .inl (cJ, 60, .inr (.inl numberOf))), (a_reads, .inl (cI, 256, .inl reads)), (a_matrix, .inl (cJ, 65536, .inr (.inl u_5.2.2.2.2.2.2.1))), (a_image, .inl (cJ, 65536, .inr (.inl u_5.2.2.2.2.2.2.2.1))), (a_imagePlace, .inl (cI, 65536, .inl u_5.2.2.2.2.2.2.2.2))] := hD.sub [0, 1, 2, 3, 4, 5, 6, 7] (by decide) rfl
          refine lv_aload_n hx hb d_Mo_total_63 rfl (lv_at hl 1 rfl) ?_
          refine va_get (D := (dC, dI)) (ci := 4) (v := .int u_5.2.2.2.2.2.1) (C := "FermionMapsModel") (T := F_Mo) (N := 25) hx hb ht0 i_Mo hown hK hP 0 rfl rfl 24 (by decide) (ht0 _ m_481) (fun _ h9 => h9) rfl d_Mo_total_64 ?_
          have hu := Option.some.inj hf
          subst hu
          exact rw_i hQ rfl rfl hP hD hK hS hx hb hr hlocks d_Mo_total_67
        · replace hf := if_f c_4 hf
          by_cases c_6 : p1 = 4
          · replace hf := if_t c_6 hf
            refine lv_tableIn (off := 60) (tgt := 68) hx hb d_Mo_total_8 (by rw [c_6]; decide) (by rw [c_6]; decide) (by rw [c_6]; rfl) (by decide) ?_
            refine lv_iconst (v := 0) hx hb d_Mo_total_68 (by decide) ?_
            refine lv_istore_n (lv' := [(3, .int 0), (2, .int 0), (0, .ref a_p0), (1, .int p1)]) hx hb d_Mo_total_69 rfl hl (by decide) rfl (fun ls hl => ?_)
            exact B_70 F 0 0 0 isImageKnown madeState madeSign imagePower imageMany imageWires matrix image imagePlace H locs ls hf hP hD hS (lv_sub hl [2, 1, 0] rfl)
          · replace hf := if_f c_6 hf
            refine lv_tableOut (tgt := 123) hx hb d_Mo_total_8 (sw_out5 c_1 c_2 c_3 c_4 c_6) (by decide) ?_
            refine lv_iconst (v := (-1)) hx hb d_Mo_total_123 (by decide) ?_
            have hu := Option.some.inj hf
            subst hu
            exact rw_i hQ rfl rfl hP hD hK hS hx hb hr hlocks d_Mo_total_124
